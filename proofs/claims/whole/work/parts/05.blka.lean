/-! ===== the blocks, one by one ===== -/
set_option maxRecDepth 20000 in
theorem B1_0 (d : Nat) (μ : amM) : At cr2 d 1 0 [] [52, 2, 0, 0, 0, 0] μ = bnd (RD cr2 d 2 [52, 2] μ) (fun _ μ1 => At cr2 d 1 1 [] [52, 2, 0, 0, 0, 0] μ1) := (At_eq cr2 d 1 0 _ _ _).trans rfl
set_option maxRecDepth 20000 in
theorem B1_1 (d : Nat) (x2 x3 x4 : Int) (μ : amM) : At cr2 d 1 1 [] [52, 2, x2, x3, x4, 0] μ = (if x4 < 1000000 then (if x3 < 0 then At cr2 d 1 5 [] [0, 0, 0, x3, 0, 0] μ else (if x3 < (μ 52 2) then rd 54 64 μ x3 (fun v1 => (if v1 < 81 then At cr2 d 1 2 [] [52, 2, x2, x3, x4, v1] μ else bnd (RD cr2 d 4 [52, 2, x3] μ) (fun v2 μ1 => At cr2 d 1 4 [] [52, 2, x2, v2, x4, 0] μ1))) else At cr2 d 1 5 [] [0, 0, 0, x3, 0, 0] μ)) else At cr2 d 1 5 [] [0, 0, 0, x3, 0, 0] μ) := (At_eq cr2 d 1 1 _ _ _).trans rfl
set_option maxRecDepth 20000 in
theorem B1_2 (d : Nat) (x2 x3 x4 x5 : Int) (μ : amM) : At cr2 d 1 2 [] [52, 2, x2, x3, x4, x5] μ = (if x2 < 20000 then At cr2 d 1 3 [] [52, 2, x2, x3, x4, x5] μ else bnd (RD cr2 d 5 [52, 2] μ) (fun _ μ1 => some (4, μ1))) := (At_eq cr2 d 1 2 _ _ _).trans rfl
set_option maxRecDepth 20000 in
theorem B1_3 (d : Nat) (x2 x3 x4 x5 : Int) (μ : amM) : At cr2 d 1 3 [] [52, 2, x2, x3, x4, x5] μ = rd 54 64 μ x3 (fun v1 => wr 54 64 μ x3 (w32 (v1 + 1)) (fun μ1 => rd 53 64 μ1 x3 (fun v2 => bnd (RD cr2 d 6 [x5] μ1) (fun v3 μ2 => bnd (RD cr2 d 74 [2, v2, v3] μ2) (fun v4 μ3 => (if v4 = 0 then At cr2 d 1 4 [] [52, 2, (w32 (x2 + 1)), x3, x4, 0] μ3 else rd 53 64 μ3 x3 (fun v5 => bnd (RD cr2 d 6 [x5] μ3) (fun v6 μ4 => bnd (RD cr2 d 67 [2, v5, 0, 0, v6] μ4) (fun _ μ5 => bnd (RD cr2 d 3 [52, (w32 (x3 + 1))] μ5) (fun _ μ6 => At cr2 d 1 4 [] [52, 2, (w32 (x2 + 1)), (w32 (x3 + 1)), x4, 0] μ6)))))))))) := (At_eq cr2 d 1 3 _ _ _).trans rfl
set_option maxRecDepth 20000 in
theorem B1_4 (d : Nat) (x2 x3 x4 : Int) (μ : amM) : At cr2 d 1 4 [] [52, 2, x2, x3, x4, 0] μ = At cr2 d 1 1 [] [52, 2, x2, x3, (w32 (x4 + 1)), 0] μ := (At_eq cr2 d 1 4 _ _ _).trans rfl
set_option maxRecDepth 20000 in
theorem B1_5 (d : Nat) (x3 : Int) (μ : amM) : At cr2 d 1 5 [] [0, 0, 0, x3, 0, 0] μ = (if x3 < 0 then At cr2 d 1 7 [2] [0, 0, 0, 0, 0, 0] μ else At cr2 d 1 6 [] [0, 0, 0, 0, 0, 0] μ) := (At_eq cr2 d 1 5 _ _ _).trans rfl
set_option maxRecDepth 20000 in
theorem B1_6 (d : Nat) (μ : amM) : At cr2 d 1 6 [] [0, 0, 0, 0, 0, 0] μ = At cr2 d 1 7 [0] [0, 0, 0, 0, 0, 0] μ := (At_eq cr2 d 1 6 _ _ _).trans rfl
set_option maxRecDepth 20000 in
theorem B1_7 (d : Nat) (s0 : Int) (μ : amM) : At cr2 d 1 7 [s0] [0, 0, 0, 0, 0, 0] μ = some (s0, μ) := (At_eq cr2 d 1 7 _ _ _).trans rfl
set_option maxRecDepth 20000 in
theorem B2_0 (d : Nat) (μ : amM) : At cr2 d 2 0 [] [52, 2, 0] μ = wf 52 2 μ 0 (fun μ1 => At cr2 d 2 1 [] [52, 2, 0] μ1) := (At_eq cr2 d 2 0 _ _ _).trans rfl
set_option maxRecDepth 20000 in
theorem B2_1 (d : Nat) (x2 : Int) (μ : amM) : At cr2 d 2 1 [] [52, 2, x2] μ = (if x2 < (μ 2 10) then rd 3 64 μ x2 (fun v1 => (if v1 = (-1) then wr 53 64 μ (μ 52 2) x2 (fun μ1 => wf 52 2 μ1 (w32 ((μ1 52 2) + 1)) (fun μ2 => At cr2 d 2 2 [] [52, 2, x2] μ2)) else At cr2 d 2 2 [] [52, 2, x2] μ)) else At cr2 d 2 3 [] [52, 0, 0] μ) := (At_eq cr2 d 2 1 _ _ _).trans rfl
set_option maxRecDepth 20000 in
theorem B2_2 (d : Nat) (x2 : Int) (μ : amM) : At cr2 d 2 2 [] [52, 2, x2] μ = At cr2 d 2 1 [] [52, 2, (w32 (x2 + 1))] μ := (At_eq cr2 d 2 2 _ _ _).trans rfl
set_option maxRecDepth 20000 in
theorem B2_3 (d : Nat) (μ : amM) : At cr2 d 2 3 [] [52, 0, 0] μ = bnd (RD cr2 d 3 [52, 0] μ) (fun _ μ1 => some (0, μ1)) := (At_eq cr2 d 2 3 _ _ _).trans rfl
set_option maxRecDepth 20000 in
theorem B3_0 (d : Nat) (x1 : Int) (μ : amM) : At cr2 d 3 0 [] [52, x1] μ = (if x1 < (μ 52 2) then wr 54 64 μ x1 0 (fun μ1 => At cr2 d 3 1 [] [0, 0] μ1) else At cr2 d 3 1 [] [0, 0] μ) := (At_eq cr2 d 3 0 _ _ _).trans rfl
set_option maxRecDepth 20000 in
theorem B3_1 (d : Nat) (μ : amM) : At cr2 d 3 1 [] [0, 0] μ = some (0, μ) := (At_eq cr2 d 3 1 _ _ _).trans rfl
set_option maxRecDepth 20000 in
theorem B4_0 (d : Nat) (x2 : Int) (μ : amM) : At cr2 d 4 0 [] [52, 2, x2] μ = (if 0 < x2 then rd 53 64 μ (w32 (x2 - 1)) (fun v1 => wr 3 64 μ v1 (-1) (fun μ1 => At cr2 d 4 1 [] [0, 0, x2] μ1)) else At cr2 d 4 1 [] [0, 0, x2] μ) := (At_eq cr2 d 4 0 _ _ _).trans rfl
set_option maxRecDepth 20000 in
theorem B4_1 (d : Nat) (x2 : Int) (μ : amM) : At cr2 d 4 1 [] [0, 0, x2] μ = some ((w32 (x2 - 1)), μ) := (At_eq cr2 d 4 1 _ _ _).trans rfl
set_option maxRecDepth 20000 in
theorem B5_0 (d : Nat) (μ : amM) : At cr2 d 5 0 [] [52, 2, 0] μ = At cr2 d 5 1 [] [52, 2, 0] μ := (At_eq cr2 d 5 0 _ _ _).trans rfl
set_option maxRecDepth 20000 in
theorem B5_1 (d : Nat) (x2 : Int) (μ : amM) : At cr2 d 5 1 [] [52, 2, x2] μ = (if x2 < (μ 52 2) then rd 53 64 μ x2 (fun v1 => wr 3 64 μ v1 (-1) (fun μ1 => At cr2 d 5 1 [] [52, 2, (w32 (x2 + 1))] μ1)) else At cr2 d 5 2 [] [0, 0, 0] μ) := (At_eq cr2 d 5 1 _ _ _).trans rfl
set_option maxRecDepth 20000 in
theorem B5_2 (d : Nat) (μ : amM) : At cr2 d 5 2 [] [0, 0, 0] μ = some (0, μ) := (At_eq cr2 d 5 2 _ _ _).trans rfl
set_option maxRecDepth 20000 in
theorem B6_0 (d : Nat) (x0 : Int) (μ : amM) : At cr2 d 6 0 [] [x0] μ = some ((bOr (bOr (bOr (w32 (x0.tdiv 27)) (bShl ((w32 (x0.tdiv 9)).tmod 3) 2)) (bShl ((w32 (x0.tdiv 3)).tmod 3) 4)) (bShl (x0.tmod 3) 6)), μ) := (At_eq cr2 d 6 0 _ _ _).trans rfl
set_option maxRecDepth 20000 in
theorem B7_0 (d : Nat) (x0 x1 : Int) (μ : amM) : At cr2 d 7 0 [] [x0, x1] μ = some ((bAnd (bShr x0 (w32 (2 * x1))) 3), μ) := (At_eq cr2 d 7 0 _ _ _).trans rfl
set_option maxRecDepth 20000 in
theorem B8_0 (d : Nat) (x0 x1 x2 : Int) (μ : amM) : At cr2 d 8 0 [] [x0, x1, x2] μ = some ((bOr (bAnd x0 (bXor (bShl 3 (w32 (2 * x1))) (-1))) (bShl x2 (w32 (2 * x1)))), μ) := (At_eq cr2 d 8 0 _ _ _).trans rfl
set_option maxRecDepth 20000 in
theorem B9_0 (d : Nat) (x0 : Int) (μ : amM) : At cr2 d 9 0 [] [x0, 0, 0] μ = At cr2 d 9 1 [] [x0, 0, 0] μ := (At_eq cr2 d 9 0 _ _ _).trans rfl
set_option maxRecDepth 20000 in
theorem B9_1 (d : Nat) (x0 x1 x2 : Int) (μ : amM) : At cr2 d 9 1 [] [x0, x1, x2] μ = (if x2 < 4 then bnd (RD cr2 d 7 [x0, x2] μ) (fun v1 μ1 => At cr2 d 9 1 [] [x0, (w32 ((w32 (3 * x1)) + (v1.tmod 3))), (w32 (x2 + 1))] μ1) else At cr2 d 9 2 [] [0, x1, 0] μ) := (At_eq cr2 d 9 1 _ _ _).trans rfl
set_option maxRecDepth 20000 in
theorem B9_2 (d : Nat) (x1 : Int) (μ : amM) : At cr2 d 9 2 [] [0, x1, 0] μ = some (x1, μ) := (At_eq cr2 d 9 2 _ _ _).trans rfl
set_option maxRecDepth 20000 in
theorem B10_0 (d : Nat) (x0 : Int) (μ : amM) : At cr2 d 10 0 [] [x0] μ = some ((bAnd (bAnd x0 (bShr x0 1)) 85), μ) := (At_eq cr2 d 10 0 _ _ _).trans rfl
set_option maxRecDepth 20000 in
theorem B11_0 (d : Nat) (x0 x1 : Int) (μ : amM) : At cr2 d 11 0 [] [x0, x1, 0, 0] μ = bnd (RD cr2 d 265 [(bAnd (bOr (bOr (bXor x0 x1) (bShr (bXor x0 x1) 1)) (bAnd x0 (bShr x0 1))) 85)] μ) (fun v1 μ1 => some ((w32 (4 - v1)), μ1)) := (At_eq cr2 d 11 0 _ _ _).trans rfl
set_option maxRecDepth 20000 in
theorem B13_0 (d : Nat) (x2 x3 x4 : Int) (μ : amM) : At cr2 d 13 0 [] [41, 1, x2, x3, x4, 0, 0] μ = bnd (RD cr2 d 15 [41, 1] μ) (fun _ μ1 => wr 49 64 μ1 x2 (bShl 1 x3) (fun μ2 => if μ2 41 4 = 2 then rd 5 64 μ2 x2 (fun v1 => bnd (RD cr2 d 7 [v1, x3] μ2) (fun v2 μ3 => (if v2 = x4 then bnd (RD cr2 d 16 [41, 0] μ3) (fun v3 μ4 => some (v3, μ4)) else At cr2 d 13 1 [] [41, 1, x2, x3, x4, v1, 0] μ3))) else none)) := (At_eq cr2 d 13 0 _ _ _).trans rfl
set_option maxRecDepth 20000 in
theorem B13_1 (d : Nat) (x2 x3 x4 x5 : Int) (μ : amM) : At cr2 d 13 1 [] [41, 1, x2, x3, x4, x5, 0] μ = if μ 41 4 = 2 then bnd (RD cr2 d 71 [2, x2, x3, x4] μ) (fun v1 μ1 => (if v1 = 0 then some ((-1), μ1) else At cr2 d 13 2 [] [41, 1, x2, x3, x4, x5, 0] μ1)) else none := (At_eq cr2 d 13 1 _ _ _).trans rfl
set_option maxRecDepth 20000 in
theorem B13_2 (d : Nat) (x2 x3 x4 x5 : Int) (μ : amM) : At cr2 d 13 2 [] [41, 1, x2, x3, x4, x5, 0] μ = if μ 41 4 = 2 then bnd (RD cr2 d 8 [x5, x3, x4] μ) (fun v1 μ1 => wr 5 64 μ1 x2 v1 (fun μ2 => bnd (RD cr2 d 16 [41, 1] μ2) (fun v2 μ3 => if μ3 41 4 = 2 then wr 5 64 μ3 x2 x5 (fun μ4 => bnd (RD cr2 d 44 [1, x2, x3] μ4) (fun v3 μ5 => wf 41 5 μ5 (w32 ((μ4 41 5) + v3)) (fun μ6 => some (v2, μ6)))) else none))) else none := (At_eq cr2 d 13 2 _ _ _).trans rfl
set_option maxRecDepth 20000 in
theorem B14_0 (d : Nat) (μ : amM) : At cr2 d 14 0 [] [41, 1] μ = bnd (RD cr2 d 15 [41, 1] μ) (fun _ μ1 => bnd (RD cr2 d 16 [41, 0] μ1) (fun v1 μ2 => some (v1, μ2))) := (At_eq cr2 d 14 0 _ _ _).trans rfl
set_option maxRecDepth 20000 in
theorem B15_0 (d : Nat) (μ : amM) : At cr2 d 15 0 [] [41, 1, 0] μ = wf 41 3 μ 1 (fun μ1 => wf 41 4 μ1 2 (fun μ2 => At cr2 d 15 1 [] [41, 0, 0] μ2)) := (At_eq cr2 d 15 0 _ _ _).trans rfl
set_option maxRecDepth 20000 in
theorem B15_1 (d : Nat) (x2 : Int) (μ : amM) : At cr2 d 15 1 [] [41, 0, x2] μ = (if x2 < 64 then wr 49 64 μ x2 0 (fun μ1 => At cr2 d 15 1 [] [41, 0, (w32 (x2 + 1))] μ1) else At cr2 d 15 2 [] [0, 0, 0] μ) := (At_eq cr2 d 15 1 _ _ _).trans rfl
set_option maxRecDepth 20000 in
theorem B15_2 (d : Nat) (μ : amM) : At cr2 d 15 2 [] [0, 0, 0] μ = some (0, μ) := (At_eq cr2 d 15 2 _ _ _).trans rfl
set_option maxRecDepth 20000 in
theorem B16_0 (d : Nat) (x1 : Int) (μ : amM) : At cr2 d 16 0 [] [41, x1, 0] μ = if μ 41 4 = 2 then bnd (RD cr2 d 79 [2] μ) (fun v1 μ1 => wf 48 0 μ1 v1 (fun μ2 => if μ2 41 4 = 2 then amCpy μ2 8 0 43 0 (μ2 48 0) (fun μ3 => At cr2 d 16 1 [] [41, x1, 0] μ3) else none)) else none := (At_eq cr2 d 16 0 _ _ _).trans rfl
set_option maxRecDepth 20000 in
theorem B16_1 (d : Nat) (x1 x2 : Int) (μ : amM) : At cr2 d 16 1 [] [41, x1, x2] μ = (if 4 < (w32 (x1 + x2)) then At cr2 d 16 3 [] [0, 0, 0] μ else bnd (RD cr2 d 17 [41, 0, x2] μ) (fun v1 μ1 => wf 41 5 μ1 v1 (fun μ2 => (if (μ2 41 5) = (-1) then At cr2 d 16 2 [] [41, x1, x2] μ2 else some ((w32 (x1 + x2)), μ2))))) := (At_eq cr2 d 16 1 _ _ _).trans rfl
set_option maxRecDepth 20000 in
theorem B16_2 (d : Nat) (x1 x2 : Int) (μ : amM) : At cr2 d 16 2 [] [41, x1, x2] μ = At cr2 d 16 1 [] [41, x1, (w32 (x2 + 1))] μ := (At_eq cr2 d 16 2 _ _ _).trans rfl
set_option maxRecDepth 20000 in
theorem B16_3 (d : Nat) (μ : amM) : At cr2 d 16 3 [] [0, 0, 0] μ = some ((-1), μ) := (At_eq cr2 d 16 3 _ _ _).trans rfl
set_option maxRecDepth 20000 in
theorem B17_0 (d : Nat) (x1 x2 : Int) (μ : amM) : At cr2 d 17 0 [] [41, x1, x2, 0, 0, 0, 0, 0, 0, 0, 0] μ = rd 48 5 μ x1 (fun v1 => (if v1 = 0 then some (0, μ) else At cr2 d 17 1 [] [41, x1, x2, 0, 0, 0, 0, 0, 0, 0, 0] μ)) := (At_eq cr2 d 17 0 _ _ _).trans rfl
set_option maxRecDepth 20000 in
theorem B17_1 (d : Nat) (x1 x2 : Int) (μ : amM) : At cr2 d 17 1 [] [41, x1, x2, 0, 0, 0, 0, 0, 0, 0, 0] μ = (if 0 < x2 then (if x1 < 4 then bnd (RD cr2 d 20 [41, x1] μ) (fun v1 μ1 => (if x2 < v1 then At cr2 d 17 2 [] [0, 0, 0, 0, 0, 0, 0, 0, 0, 0, 0] μ1 else At cr2 d 17 3 [] [41, x1, x2, 0, 0, 0, 0, 0, 0, 0, 0] μ1)) else At cr2 d 17 2 [] [0, 0, 0, 0, 0, 0, 0, 0, 0, 0, 0] μ) else At cr2 d 17 2 [] [0, 0, 0, 0, 0, 0, 0, 0, 0, 0, 0] μ) := (At_eq cr2 d 17 1 _ _ _).trans rfl
set_option maxRecDepth 20000 in
theorem B17_2 (d : Nat) (μ : amM) : At cr2 d 17 2 [] [0, 0, 0, 0, 0, 0, 0, 0, 0, 0, 0] μ = some ((-1), μ) := (At_eq cr2 d 17 2 _ _ _).trans rfl
set_option maxRecDepth 20000 in
theorem B17_3 (d : Nat) (x1 x2 : Int) (μ : amM) : At cr2 d 17 3 [] [41, x1, x2, 0, 0, 0, 0, 0, 0, 0, 0] μ = amQld cr2 25 μ 42 x1 (fun v1 => amAld μ v1 0 (fun v2 => amQld cr2 25 μ 42 x1 (fun v3 => amAld μ v3 0 (fun v4 => rd 49 64 μ (w32 (v2.tdiv 64)) (fun v5 => rd 49 64 μ (v4.tmod 64) (fun v6 => if μ 41 4 = 2 then rd 5 64 μ (w32 (v2.tdiv 64)) (fun v7 => if μ 41 4 = 2 then rd 5 64 μ (v4.tmod 64) (fun v8 => bnd (RD cr2 d 21 [v7, v8] μ) (fun v9 μ1 => bnd (RD cr2 d 265 [v9] μ1) (fun v10 μ2 => if μ2 41 4 = 2 then (if v10 < (μ2 2 11) then At cr2 d 17 5 [(bXor v9 (-1))] [41, x1, x2, (w32 (v2.tdiv 64)), (v4.tmod 64), v5, v6, 0, 0, 0, 0] μ2 else At cr2 d 17 4 [] [41, x1, x2, (w32 (v2.tdiv 64)), (v4.tmod 64), v5, v6, v9, 0, 0, 0] μ2) else none))) else none) else none)))))) := (At_eq cr2 d 17 3 _ _ _).trans rfl
set_option maxRecDepth 20000 in
theorem B17_4 (d : Nat) (x1 x2 x3 x4 x5 x6 x7 : Int) (μ : amM) : At cr2 d 17 4 [] [41, x1, x2, x3, x4, x5, x6, x7, 0, 0, 0] μ = At cr2 d 17 5 [x7] [41, x1, x2, x3, x4, x5, x6, 0, 0, 0, 0] μ := (At_eq cr2 d 17 4 _ _ _).trans rfl
set_option maxRecDepth 20000 in
theorem B17_5 (d : Nat) (s0 x1 x2 x3 x4 x5 x6 : Int) (μ : amM) : At cr2 d 17 5 [s0] [41, x1, x2, x3, x4, x5, x6, 0, 0, 0, 0] μ = At cr2 d 17 6 [] [41, x1, x2, x3, x4, x5, x6, 0, s0, (-1), 0] μ := (At_eq cr2 d 17 5 _ _ _).trans rfl
set_option maxRecDepth 20000 in
theorem B17_6 (d : Nat) (x1 x2 x3 x4 x5 x6 x8 x9 x10 : Int) (μ : amM) : At cr2 d 17 6 [] [41, x1, x2, x3, x4, x5, x6, 0, x8, x9, x10] μ = (if x10 < 4 then (if (bAnd (bShr x8 x10) 1) = 0 then At cr2 d 17 7 [] [41, x1, x2, x3, x4, x5, x6, 0, x8, x9, x10] μ else bnd (RD cr2 d 18 [41, x3, x10, x1, x2] μ) (fun v1 μ1 => bnd (RD cr2 d 22 [x9, v1] μ1) (fun v2 μ2 => bnd (RD cr2 d 18 [41, x4, x10, x1, x2] μ2) (fun v3 μ3 => bnd (RD cr2 d 22 [v2, v3] μ3) (fun v4 μ4 => At cr2 d 17 7 [] [41, x1, x2, x3, x4, x5, x6, 0, x8, v4, x10] μ4))))) else At cr2 d 17 8 [] [41, 0, 0, x3, x4, x5, x6, 0, 0, x9, 0] μ) := (At_eq cr2 d 17 6 _ _ _).trans rfl
set_option maxRecDepth 20000 in
theorem B17_7 (d : Nat) (x1 x2 x3 x4 x5 x6 x8 x9 x10 : Int) (μ : amM) : At cr2 d 17 7 [] [41, x1, x2, x3, x4, x5, x6, 0, x8, x9, x10] μ = At cr2 d 17 6 [] [41, x1, x2, x3, x4, x5, x6, 0, x8, x9, (w32 (x10 + 1))] μ := (At_eq cr2 d 17 7 _ _ _).trans rfl
set_option maxRecDepth 20000 in
theorem B17_8 (d : Nat) (x3 x4 x5 x6 x9 : Int) (μ : amM) : At cr2 d 17 8 [] [41, 0, 0, x3, x4, x5, x6, 0, 0, x9, 0] μ = wr 49 64 μ x3 x5 (fun μ1 => wr 49 64 μ1 x4 x6 (fun μ2 => some (x9, μ2))) := (At_eq cr2 d 17 8 _ _ _).trans rfl
set_option maxRecDepth 20000 in
theorem B18_0 (d : Nat) (x1 x2 x3 x4 : Int) (μ : amM) : At cr2 d 18 0 [] [41, x1, x2, x3, x4, 0, 0, 0] μ = rd 49 64 μ x1 (fun v1 => (if (bAnd (bShr v1 x2) 1) = 0 then At cr2 d 18 1 [] [41, x1, x2, x3, x4, 0, 0, 0] μ else some ((-1), μ))) := (At_eq cr2 d 18 0 _ _ _).trans rfl
set_option maxRecDepth 20000 in
theorem B18_1 (d : Nat) (x1 x2 x3 x4 : Int) (μ : amM) : At cr2 d 18 1 [] [41, x1, x2, x3, x4, 0, 0, 0] μ = rd 49 64 μ x1 (fun v1 => wr 49 64 μ x1 (bOr v1 (bShl 1 x2)) (fun μ1 => if μ1 41 4 = 2 then rd 5 64 μ1 x1 (fun v2 => At cr2 d 18 2 [] [41, x1, x2, x3, x4, v2, (-1), 0] μ1) else none)) := (At_eq cr2 d 18 1 _ _ _).trans rfl
set_option maxRecDepth 20000 in
theorem B18_2 (d : Nat) (x1 x2 x3 x4 x5 x6 x7 : Int) (μ : amM) : At cr2 d 18 2 [] [41, x1, x2, x3, x4, x5, x6, x7] μ = (if x7 < 3 then bnd (RD cr2 d 7 [x5, x2] μ) (fun v1 μ1 => (if x7 = v1 then At cr2 d 18 3 [] [41, x1, x2, x3, x4, x5, x6, x7] μ1 else if μ1 41 4 = 2 then bnd (RD cr2 d 8 [x5, x2, x7] μ1) (fun v2 μ2 => wr 5 64 μ2 x1 v2 (fun μ3 => bnd (RD cr2 d 19 [41, x3, x1] μ3) (fun _ μ4 => bnd (RD cr2 d 17 [41, (w32 (x3 + 1)), (w32 (x4 - 1))] μ4) (fun v3 μ5 => bnd (RD cr2 d 22 [x6, v3] μ5) (fun v4 μ6 => At cr2 d 18 3 [] [41, x1, x2, x3, x4, x5, v4, x7] μ6))))) else none)) else At cr2 d 18 4 [] [41, x1, x2, 0, 0, x5, x6, 0] μ) := (At_eq cr2 d 18 2 _ _ _).trans rfl
set_option maxRecDepth 20000 in
theorem B18_3 (d : Nat) (x1 x2 x3 x4 x5 x6 x7 : Int) (μ : amM) : At cr2 d 18 3 [] [41, x1, x2, x3, x4, x5, x6, x7] μ = At cr2 d 18 2 [] [41, x1, x2, x3, x4, x5, x6, (w32 (x7 + 1))] μ := (At_eq cr2 d 18 3 _ _ _).trans rfl
set_option maxRecDepth 20000 in
theorem B18_4 (d : Nat) (x1 x2 x5 x6 : Int) (μ : amM) : At cr2 d 18 4 [] [41, x1, x2, 0, 0, x5, x6, 0] μ = if μ 41 4 = 2 then wr 5 64 μ x1 x5 (fun μ1 => (if x6 = (-1) then At cr2 d 18 6 [(-1)] [0, 0, 0, 0, 0, 0, 0, 0] μ1 else At cr2 d 18 5 [] [41, x1, x2, 0, 0, 0, x6, 0] μ1)) else none := (At_eq cr2 d 18 4 _ _ _).trans rfl
set_option maxRecDepth 20000 in
theorem B18_5 (d : Nat) (x1 x2 x6 : Int) (μ : amM) : At cr2 d 18 5 [] [41, x1, x2, 0, 0, 0, x6, 0] μ = if μ 41 3 = 1 then bnd (RD cr2 d 44 [1, x1, x2] μ) (fun v1 μ1 => At cr2 d 18 6 [(w32 (x6 + v1))] [0, 0, 0, 0, 0, 0, 0, 0] μ1) else none := (At_eq cr2 d 18 5 _ _ _).trans rfl
set_option maxRecDepth 20000 in
theorem B18_6 (d : Nat) (s0 : Int) (μ : amM) : At cr2 d 18 6 [s0] [0, 0, 0, 0, 0, 0, 0, 0] μ = some (s0, μ) := (At_eq cr2 d 18 6 _ _ _).trans rfl
set_option maxRecDepth 20000 in
theorem B19_0 (d : Nat) (x1 x2 : Int) (μ : amM) : At cr2 d 19 0 [] [41, x1, x2, 0, 0, 0, 0, 0] μ = amQld cr2 25 μ 42 x1 (fun v1 => amQld cr2 25 μ 42 (w32 (x1 + 1)) (fun v2 => At cr2 d 19 1 [] [41, x1, x2, v1, v2, 0, 0, 0] μ)) := (At_eq cr2 d 19 0 _ _ _).trans rfl
set_option maxRecDepth 20000 in
theorem B19_1 (d : Nat) (x1 x2 x3 x4 x5 x6 : Int) (μ : amM) : At cr2 d 19 1 [] [41, x1, x2, x3, x4, x5, x6, 0] μ = rd 48 5 μ x1 (fun v1 => (if x6 < v1 then amAld μ x3 x6 (fun v2 => (if (w32 (v2.tdiv 64)) = x2 then At cr2 d 19 2 [] [41, x1, x2, x3, x4, x5, x6, 0] μ else amAld μ x3 x6 (fun v3 => (if (v3.tmod 64) = x2 then At cr2 d 19 2 [] [41, x1, x2, x3, x4, x5, x6, 0] μ else amAld μ x3 x6 (fun v4 => amPst 20 μ x4 x5 v4 (fun μ1 => At cr2 d 19 2 [] [41, x1, x2, x3, x4, (w32 (x5 + 1)), x6, 0] μ1)))))) else At cr2 d 19 3 [] [41, x1, x2, 0, x4, x5, 0, 0] μ)) := (At_eq cr2 d 19 1 _ _ _).trans rfl
set_option maxRecDepth 20000 in
theorem B19_2 (d : Nat) (x1 x2 x3 x4 x5 x6 : Int) (μ : amM) : At cr2 d 19 2 [] [41, x1, x2, x3, x4, x5, x6, 0] μ = At cr2 d 19 1 [] [41, x1, x2, x3, x4, x5, (w32 (x6 + 1)), 0] μ := (At_eq cr2 d 19 2 _ _ _).trans rfl
set_option maxRecDepth 20000 in
theorem B19_3 (d : Nat) (x1 x2 x4 x5 : Int) (μ : amM) : At cr2 d 19 3 [] [41, x1, x2, 0, x4, x5, 0, 0] μ = At cr2 d 19 4 [] [41, x1, x2, 0, x4, x5, 0, 0] μ := (At_eq cr2 d 19 3 _ _ _).trans rfl
set_option maxRecDepth 20000 in
theorem B19_4 (d : Nat) (x1 x2 x4 x5 x6 : Int) (μ : amM) : At cr2 d 19 4 [] [41, x1, x2, 0, x4, x5, x6, 0] μ = if μ 41 4 = 2 then rd 7 64 μ x2 (fun v1 => (if x6 < v1 then if μ 41 4 = 2 then rd 6 256 μ (w32 ((w32 (x2 * 4)) + x6)) (fun v2 => (if x5 < 128 then if μ 41 4 = 2 then bnd (RD cr2 d 73 [2, x2, v2] μ) (fun v3 μ1 => (if v3 = 0 then At cr2 d 19 5 [] [41, x1, x2, 0, x4, x5, x6, 0] μ1 else amPst 20 μ1 x4 x5 (w32 ((w32 (64 * x2)) + v2)) (fun μ2 => At cr2 d 19 5 [] [41, x1, x2, 0, x4, (w32 (x5 + 1)), x6, 0] μ2))) else none else At cr2 d 19 5 [] [41, x1, x2, 0, x4, x5, x6, 0] μ)) else none else At cr2 d 19 6 [] [41, x1, 0, 0, 0, x5, 0, 0] μ)) else none := (At_eq cr2 d 19 4 _ _ _).trans rfl
set_option maxRecDepth 20000 in
theorem B19_5 (d : Nat) (x1 x2 x4 x5 x6 : Int) (μ : amM) : At cr2 d 19 5 [] [41, x1, x2, 0, x4, x5, x6, 0] μ = At cr2 d 19 4 [] [41, x1, x2, 0, x4, x5, (w32 (x6 + 1)), 0] μ := (At_eq cr2 d 19 5 _ _ _).trans rfl
set_option maxRecDepth 20000 in
theorem B19_6 (d : Nat) (x1 x5 : Int) (μ : amM) : At cr2 d 19 6 [] [41, x1, 0, 0, 0, x5, 0, 0] μ = wr 48 5 μ (w32 (x1 + 1)) x5 (fun μ1 => some (0, μ1)) := (At_eq cr2 d 19 6 _ _ _).trans rfl
set_option maxRecDepth 20000 in
theorem B20_0 (d : Nat) (x1 : Int) (μ : amM) : At cr2 d 20 0 [] [41, x1, 0, 0, 0, 0, 0, 0, 0, 0, 0, 0] μ = rd 48 5 μ x1 (fun v1 => At cr2 d 20 1 [] [41, x1, (w32 ((w32 ((w32 (v1 + 4)) - 1)).tdiv 4)), 0, 0, 0, 0, 0, 0, 0, 0, 0] μ) := (At_eq cr2 d 20 0 _ _ _).trans rfl
set_option maxRecDepth 20000 in
theorem B20_1 (d : Nat) (x1 x2 x3 x4 x6 : Int) (μ : amM) : At cr2 d 20 1 [] [41, x1, x2, x3, x4, 0, x6, 0, 0, 0, 0, 0] μ = rd 48 5 μ x1 (fun v1 => (if x6 < v1 then amQld cr2 25 μ 42 x1 (fun v2 => amAld μ v2 x6 (fun v3 => amQld cr2 25 μ 42 x1 (fun v4 => amAld μ v4 x6 (fun v5 => (if (if (lAnd x4 (lOr (lShl 1 (w32 (v3.tdiv 64))) (lShl 1 (v5.tmod 64)))) < 0 then (-1) else if (lAnd x4 (lOr (lShl 1 (w32 (v3.tdiv 64))) (lShl 1 (v5.tmod 64)))) = 0 then 0 else 1) = 0 then if μ 41 4 = 2 then rd 5 64 μ (w32 (v3.tdiv 64)) (fun v6 => if μ 41 4 = 2 then rd 5 64 μ (v5.tmod 64) (fun v7 => bnd (RD cr2 d 11 [v6, v7] μ) (fun v8 μ1 => if μ1 41 4 = 2 then if μ1 41 4 = 2 then At cr2 d 20 2 [] [41, x1, x2, (w32 (x3 + (jmax (w32 ((μ1 2 11) - v8)) (w32 (v8 - (μ1 2 12)))))), (lOr x4 (lOr (lShl 1 (w32 (v3.tdiv 64))) (lShl 1 (v5.tmod 64)))), 0, x6, 0, 0, 0, 0, 0] μ1 else none else none)) else none) else none else At cr2 d 20 2 [] [41, x1, x2, x3, x4, 0, x6, 0, 0, 0, 0, 0] μ))))) else At cr2 d 20 3 [] [0, 0, x2, x3, 0, 0, 0, 0, 0, 0, 0, 0] μ)) := (At_eq cr2 d 20 1 _ _ _).trans rfl
set_option maxRecDepth 20000 in
theorem B20_2 (d : Nat) (x1 x2 x3 x4 x6 : Int) (μ : amM) : At cr2 d 20 2 [] [41, x1, x2, x3, x4, 0, x6, 0, 0, 0, 0, 0] μ = At cr2 d 20 1 [] [41, x1, x2, x3, x4, 0, (w32 (x6 + 1)), 0, 0, 0, 0, 0] μ := (At_eq cr2 d 20 2 _ _ _).trans rfl
set_option maxRecDepth 20000 in
theorem B20_3 (d : Nat) (x2 x3 : Int) (μ : amM) : At cr2 d 20 3 [] [0, 0, x2, x3, 0, 0, 0, 0, 0, 0, 0, 0] μ = some ((jmax x2 x3), μ) := (At_eq cr2 d 20 3 _ _ _).trans rfl
set_option maxRecDepth 20000 in
theorem B21_0 (d : Nat) (x0 x1 : Int) (μ : amM) : At cr2 d 21 0 [] [x0, x1, 0, 0, 0] μ = At cr2 d 21 1 [] [x0, x1, 0, 0, 0] μ := (At_eq cr2 d 21 0 _ _ _).trans rfl
set_option maxRecDepth 20000 in
theorem B21_1 (d : Nat) (x0 x1 x2 x3 : Int) (μ : amM) : At cr2 d 21 1 [] [x0, x1, x2, x3, 0] μ = (if x3 < 4 then bnd (RD cr2 d 7 [x0, x3] μ) (fun v1 μ1 => (if v1 = 3 then At cr2 d 21 2 [] [x0, x1, x2, x3, 0] μ1 else bnd (RD cr2 d 7 [x1, x3] μ1) (fun v2 μ2 => (if v1 = v2 then At cr2 d 21 2 [] [x0, x1, (bOr x2 (bShl 1 x3)), x3, 0] μ2 else At cr2 d 21 2 [] [x0, x1, x2, x3, 0] μ2)))) else At cr2 d 21 3 [] [0, 0, x2, 0, 0] μ) := (At_eq cr2 d 21 1 _ _ _).trans rfl
set_option maxRecDepth 20000 in
theorem B21_2 (d : Nat) (x0 x1 x2 x3 : Int) (μ : amM) : At cr2 d 21 2 [] [x0, x1, x2, x3, 0] μ = At cr2 d 21 1 [] [x0, x1, x2, (w32 (x3 + 1)), 0] μ := (At_eq cr2 d 21 2 _ _ _).trans rfl
set_option maxRecDepth 20000 in
theorem B21_3 (d : Nat) (x2 : Int) (μ : amM) : At cr2 d 21 3 [] [0, 0, x2, 0, 0] μ = some (x2, μ) := (At_eq cr2 d 21 3 _ _ _).trans rfl
set_option maxRecDepth 20000 in
theorem B22_0 (d : Nat) (x0 x1 : Int) (μ : amM) : At cr2 d 22 0 [] [x0, x1] μ = (if x0 = (-1) then At cr2 d 22 1 [] [x0, x1] μ else (if x1 = (-1) then At cr2 d 22 1 [] [x0, x1] μ else At cr2 d 22 2 [] [x0, x1] μ)) := (At_eq cr2 d 22 0 _ _ _).trans rfl
set_option maxRecDepth 20000 in
theorem B22_1 (d : Nat) (x0 x1 : Int) (μ : amM) : At cr2 d 22 1 [] [x0, x1] μ = some ((jmax x0 x1), μ) := (At_eq cr2 d 22 1 _ _ _).trans rfl
set_option maxRecDepth 20000 in
theorem B22_2 (d : Nat) (x0 x1 : Int) (μ : amM) : At cr2 d 22 2 [] [x0, x1] μ = some ((jmin x0 x1), μ) := (At_eq cr2 d 22 2 _ _ _).trans rfl
set_option maxRecDepth 20000 in
theorem B24_0 (d : Nat) (x2 x3 : Int) (μ : amM) : At cr2 d 24 0 [] [37, 11, x2, x3] μ = wf 37 1 μ 11 (fun μ1 => wf 37 2 μ1 x2 (fun μ2 => wf 37 4 μ2 x3 (fun μ3 => wf 37 3 μ3 0 (fun μ4 => bnd (RD cr2 d 55 [38] μ4) (fun _ μ5 => bnd (RD cr2 d 26 [37, 0, 0] μ5) (fun v1 μ6 => (if v1 = 0 then At cr2 d 24 1 [] [37, 0, 0, 0] μ6 else (if (μ6 37 3) = (μ6 37 2) then At cr2 d 24 2 [(-1)] [0, 0, 0, 0] μ6 else At cr2 d 24 1 [] [37, 0, 0, 0] μ6)))))))) := (At_eq cr2 d 24 0 _ _ _).trans rfl
set_option maxRecDepth 20000 in
theorem B24_1 (d : Nat) (μ : amM) : At cr2 d 24 1 [] [37, 0, 0, 0] μ = At cr2 d 24 2 [(μ 37 3)] [0, 0, 0, 0] μ := (At_eq cr2 d 24 1 _ _ _).trans rfl
set_option maxRecDepth 20000 in
theorem B24_2 (d : Nat) (s0 : Int) (μ : amM) : At cr2 d 24 2 [s0] [0, 0, 0, 0] μ = some (s0, μ) := (At_eq cr2 d 24 2 _ _ _).trans rfl
set_option maxRecDepth 20000 in
theorem B25_0 (d : Nat) (μ : amM) : At cr2 d 25 0 [] [37] μ = (if (μ 37 3) < (μ 37 2) then if μ 37 1 = 11 then rd 11 50 μ (μ 37 3) (fun v1 => At cr2 d 25 2 [v1] [0] μ) else none else At cr2 d 25 1 [] [0] μ) := (At_eq cr2 d 25 0 _ _ _).trans rfl
set_option maxRecDepth 20000 in
theorem B25_1 (d : Nat) (μ : amM) : At cr2 d 25 1 [] [0] μ = At cr2 d 25 2 [(-1)] [0] μ := (At_eq cr2 d 25 1 _ _ _).trans rfl
set_option maxRecDepth 20000 in
theorem B25_2 (d : Nat) (s0 : Int) (μ : amM) : At cr2 d 25 2 [s0] [0] μ = some (s0, μ) := (At_eq cr2 d 25 2 _ _ _).trans rfl
set_option maxRecDepth 20000 in
theorem B26_0 (d : Nat) (x1 x2 : Int) (μ : amM) : At cr2 d 26 0 [] [37, x1, x2, 0, 0, 0] μ = (if x1 < 5 then At cr2 d 26 1 [] [37, x1, x2, 0, 0, 0] μ else bnd (RD cr2 d 28 [37, x2] μ) (fun v1 μ1 => rb v1 μ1)) := (At_eq cr2 d 26 0 _ _ _).trans rfl
set_option maxRecDepth 20000 in
theorem B26_1 (d : Nat) (x1 x2 : Int) (μ : amM) : At cr2 d 26 1 [] [37, x1, x2, 0, 0, 0] μ = bnd (RD cr2 d 26 [37, (w32 (x1 + 1)), x2] μ) (fun v1 μ1 => (if v1 = 0 then some (0, μ1) else At cr2 d 26 2 [] [37, x1, x2, 0, 0, 0] μ1)) := (At_eq cr2 d 26 1 _ _ _).trans rfl
set_option maxRecDepth 20000 in
theorem B26_2 (d : Nat) (x1 x2 : Int) (μ : amM) : At cr2 d 26 2 [] [37, x1, x2, 0, 0, 0] μ = (if x1 = 2 then At cr2 d 26 4 [1] [37, x1, x2, 0, 0, 0] μ else At cr2 d 26 3 [] [37, x1, x2, 0, 0, 0] μ) := (At_eq cr2 d 26 2 _ _ _).trans rfl
set_option maxRecDepth 20000 in
theorem B26_3 (d : Nat) (x1 x2 : Int) (μ : amM) : At cr2 d 26 3 [] [37, x1, x2, 0, 0, 0] μ = At cr2 d 26 4 [50] [37, x1, x2, 0, 0, 0] μ := (At_eq cr2 d 26 3 _ _ _).trans rfl
set_option maxRecDepth 20000 in
theorem B26_4 (d : Nat) (s0 x1 x2 : Int) (μ : amM) : At cr2 d 26 4 [s0] [37, x1, x2, 0, 0, 0] μ = At cr2 d 26 5 [] [37, x1, x2, s0, 0, 0] μ := (At_eq cr2 d 26 4 _ _ _).trans rfl
set_option maxRecDepth 20000 in
theorem B26_5 (d : Nat) (x1 x2 x3 x4 : Int) (μ : amM) : At cr2 d 26 5 [] [37, x1, x2, x3, x4, 0] μ = (if x4 < x3 then bnd (RD cr2 d 25 [37] μ) (fun v1 μ1 => bnd (RD cr2 d 27 [x1, v1] μ1) (fun v2 μ2 => (if v2 = 0 then At cr2 d 26 7 [] [0, 0, 0, 0, 0, 0] μ2 else bnd (RD cr2 d 25 [37] μ2) (fun v3 μ3 => wf 37 3 μ3 (w32 ((μ3 37 3) + 1)) (fun μ4 => bnd (RD cr2 d 26 [37, (w32 (x1 + 1)), x2] μ4) (fun v4 μ5 => (if v4 = 0 then some (0, μ5) else At cr2 d 26 6 [] [37, x1, x2, x3, x4, v3] μ5))))))) else At cr2 d 26 7 [] [0, 0, 0, 0, 0, 0] μ) := (At_eq cr2 d 26 5 _ _ _).trans rfl
set_option maxRecDepth 20000 in
theorem B26_6 (d : Nat) (x1 x2 x3 x4 x5 : Int) (μ : amM) : At cr2 d 26 6 [] [37, x1, x2, x3, x4, x5] μ = bnd (RD cr2 d 56 [38, (w32 (20000 + x5))] μ) (fun _ μ1 => At cr2 d 26 5 [] [37, x1, x2, x3, (w32 (x4 + 1)), 0] μ1) := (At_eq cr2 d 26 6 _ _ _).trans rfl
set_option maxRecDepth 20000 in
theorem B26_7 (d : Nat) (μ : amM) : At cr2 d 26 7 [] [0, 0, 0, 0, 0, 0] μ = some (1, μ) := (At_eq cr2 d 26 7 _ _ _).trans rfl
set_option maxRecDepth 20000 in
theorem B27_0 (d : Nat) (x0 x1 : Int) (μ : amM) : At cr2 d 27 0 [] [x0, x1] μ = (if x0 = 0 then At cr2 d 27 1 [] [0, x1] μ else if x0 = 1 then At cr2 d 27 4 [] [0, x1] μ else if x0 = 2 then At cr2 d 27 7 [] [0, x1] μ else if x0 = 3 then At cr2 d 27 11 [] [0, x1] μ else At cr2 d 27 15 [] [0, x1] μ) := (At_eq cr2 d 27 0 _ _ _).trans rfl
set_option maxRecDepth 20000 in
theorem B27_1 (d : Nat) (x1 : Int) (μ : amM) : At cr2 d 27 1 [] [0, x1] μ = (if x1 = 124 then At cr2 d 27 3 [1] [0, 0] μ else At cr2 d 27 2 [] [0, 0] μ) := (At_eq cr2 d 27 1 _ _ _).trans rfl
set_option maxRecDepth 20000 in
theorem B27_2 (d : Nat) (μ : amM) : At cr2 d 27 2 [] [0, 0] μ = At cr2 d 27 3 [0] [0, 0] μ := (At_eq cr2 d 27 2 _ _ _).trans rfl
set_option maxRecDepth 20000 in
theorem B27_3 (d : Nat) (s0 : Int) (μ : amM) : At cr2 d 27 3 [s0] [0, 0] μ = rb s0 μ := (At_eq cr2 d 27 3 _ _ _).trans rfl
set_option maxRecDepth 20000 in
theorem B27_4 (d : Nat) (x1 : Int) (μ : amM) : At cr2 d 27 4 [] [0, x1] μ = (if x1 = 38 then At cr2 d 27 6 [1] [0, 0] μ else At cr2 d 27 5 [] [0, 0] μ) := (At_eq cr2 d 27 4 _ _ _).trans rfl
set_option maxRecDepth 20000 in
theorem B27_5 (d : Nat) (μ : amM) : At cr2 d 27 5 [] [0, 0] μ = At cr2 d 27 6 [0] [0, 0] μ := (At_eq cr2 d 27 5 _ _ _).trans rfl
set_option maxRecDepth 20000 in
theorem B27_6 (d : Nat) (s0 : Int) (μ : amM) : At cr2 d 27 6 [s0] [0, 0] μ = rb s0 μ := (At_eq cr2 d 27 6 _ _ _).trans rfl
set_option maxRecDepth 20000 in
theorem B27_7 (d : Nat) (x1 : Int) (μ : amM) : At cr2 d 27 7 [] [0, x1] μ = (if x1 = 60 then At cr2 d 27 8 [] [0, 0] μ else (if x1 = 61 then At cr2 d 27 8 [] [0, 0] μ else (if x1 = 62 then At cr2 d 27 8 [] [0, 0] μ else At cr2 d 27 9 [] [0, 0] μ))) := (At_eq cr2 d 27 7 _ _ _).trans rfl
set_option maxRecDepth 20000 in
theorem B27_8 (d : Nat) (μ : amM) : At cr2 d 27 8 [] [0, 0] μ = At cr2 d 27 10 [1] [0, 0] μ := (At_eq cr2 d 27 8 _ _ _).trans rfl
set_option maxRecDepth 20000 in
theorem B27_9 (d : Nat) (μ : amM) : At cr2 d 27 9 [] [0, 0] μ = At cr2 d 27 10 [0] [0, 0] μ := (At_eq cr2 d 27 9 _ _ _).trans rfl
set_option maxRecDepth 20000 in
theorem B27_10 (d : Nat) (s0 : Int) (μ : amM) : At cr2 d 27 10 [s0] [0, 0] μ = rb s0 μ := (At_eq cr2 d 27 10 _ _ _).trans rfl
set_option maxRecDepth 20000 in
theorem B27_11 (d : Nat) (x1 : Int) (μ : amM) : At cr2 d 27 11 [] [0, x1] μ = (if x1 = 43 then At cr2 d 27 12 [] [0, 0] μ else (if x1 = 45 then At cr2 d 27 12 [] [0, 0] μ else At cr2 d 27 13 [] [0, 0] μ)) := (At_eq cr2 d 27 11 _ _ _).trans rfl
set_option maxRecDepth 20000 in
theorem B27_12 (d : Nat) (μ : amM) : At cr2 d 27 12 [] [0, 0] μ = At cr2 d 27 14 [1] [0, 0] μ := (At_eq cr2 d 27 12 _ _ _).trans rfl
set_option maxRecDepth 20000 in
theorem B27_13 (d : Nat) (μ : amM) : At cr2 d 27 13 [] [0, 0] μ = At cr2 d 27 14 [0] [0, 0] μ := (At_eq cr2 d 27 13 _ _ _).trans rfl
set_option maxRecDepth 20000 in
theorem B27_14 (d : Nat) (s0 : Int) (μ : amM) : At cr2 d 27 14 [s0] [0, 0] μ = rb s0 μ := (At_eq cr2 d 27 14 _ _ _).trans rfl
set_option maxRecDepth 20000 in
theorem B27_15 (d : Nat) (x1 : Int) (μ : amM) : At cr2 d 27 15 [] [0, x1] μ = (if x1 = 42 then At cr2 d 27 16 [] [0, 0] μ else (if x1 = 47 then At cr2 d 27 16 [] [0, 0] μ else (if x1 = 37 then At cr2 d 27 16 [] [0, 0] μ else At cr2 d 27 17 [] [0, 0] μ))) := (At_eq cr2 d 27 15 _ _ _).trans rfl
set_option maxRecDepth 20000 in
theorem B27_16 (d : Nat) (μ : amM) : At cr2 d 27 16 [] [0, 0] μ = At cr2 d 27 18 [1] [0, 0] μ := (At_eq cr2 d 27 16 _ _ _).trans rfl
set_option maxRecDepth 20000 in
theorem B27_17 (d : Nat) (μ : amM) : At cr2 d 27 17 [] [0, 0] μ = At cr2 d 27 18 [0] [0, 0] μ := (At_eq cr2 d 27 17 _ _ _).trans rfl
set_option maxRecDepth 20000 in
theorem B27_18 (d : Nat) (s0 : Int) (μ : amM) : At cr2 d 27 18 [s0] [0, 0] μ = rb s0 μ := (At_eq cr2 d 27 18 _ _ _).trans rfl
set_option maxRecDepth 20000 in
theorem B28_0 (d : Nat) (x1 : Int) (μ : amM) : At cr2 d 28 0 [] [37, x1, 0, 0] μ = bnd (RD cr2 d 25 [37] μ) (fun v1 μ1 => bnd (RD cr2 d 32 [v1] μ1) (fun v2 μ2 => (if v2 = 0 then At cr2 d 28 1 [] [37, x1, v1, 0] μ2 else bnd (RD cr2 d 31 [37] μ2) (fun _ μ3 => some (1, μ3))))) := (At_eq cr2 d 28 0 _ _ _).trans rfl
set_option maxRecDepth 20000 in
theorem B28_1 (d : Nat) (x1 x2 : Int) (μ : amM) : At cr2 d 28 1 [] [37, x1, x2, 0] μ = bnd (RD cr2 d 33 [37, x2] μ) (fun v1 μ1 => (if v1 = (-1) then At cr2 d 28 2 [] [37, x1, x2, 0] μ1 else bnd (RD cr2 d 56 [38, (w32 (10000 + v1))] μ1) (fun _ μ2 => wf 37 3 μ2 (w32 ((μ2 37 3) + 1)) (fun μ3 => some (1, μ3))))) := (At_eq cr2 d 28 1 _ _ _).trans rfl
set_option maxRecDepth 20000 in
theorem B28_2 (d : Nat) (x1 x2 : Int) (μ : amM) : At cr2 d 28 2 [] [37, x1, x2, 0] μ = (if x2 = 33 then At cr2 d 28 3 [] [37, x1, x2, 0] μ else (if x2 = 40 then At cr2 d 28 3 [] [37, x1, x2, 0] μ else At cr2 d 28 4 [] [0, 0, 0, 0] μ)) := (At_eq cr2 d 28 2 _ _ _).trans rfl
set_option maxRecDepth 20000 in
theorem B28_3 (d : Nat) (x1 x2 : Int) (μ : amM) : At cr2 d 28 3 [] [37, x1, x2, 0] μ = (if x1 < 5 then At cr2 d 28 5 [] [37, x1, x2, 0] μ else At cr2 d 28 4 [] [0, 0, 0, 0] μ) := (At_eq cr2 d 28 3 _ _ _).trans rfl
set_option maxRecDepth 20000 in
theorem B28_4 (d : Nat) (μ : amM) : At cr2 d 28 4 [] [0, 0, 0, 0] μ = some (0, μ) := (At_eq cr2 d 28 4 _ _ _).trans rfl
set_option maxRecDepth 20000 in
theorem B28_5 (d : Nat) (x1 x2 : Int) (μ : amM) : At cr2 d 28 5 [] [37, x1, x2, 0] μ = wf 37 3 μ (w32 ((μ 37 3) + 1)) (fun μ1 => (if x2 = 33 then bnd (RD cr2 d 29 [37, (w32 (x1 + 1))] μ1) (fun v1 μ2 => At cr2 d 28 7 [v1] [0, 0, 0, 0] μ2) else At cr2 d 28 6 [] [37, x1, 0, 0] μ1)) := (At_eq cr2 d 28 5 _ _ _).trans rfl
set_option maxRecDepth 20000 in
theorem B28_6 (d : Nat) (x1 : Int) (μ : amM) : At cr2 d 28 6 [] [37, x1, 0, 0] μ = bnd (RD cr2 d 30 [37, (w32 (x1 + 1))] μ) (fun v1 μ1 => At cr2 d 28 7 [v1] [0, 0, 0, 0] μ1) := (At_eq cr2 d 28 6 _ _ _).trans rfl
set_option maxRecDepth 20000 in
theorem B28_7 (d : Nat) (s0 : Int) (μ : amM) : At cr2 d 28 7 [s0] [0, 0, 0, 0] μ = rb s0 μ := (At_eq cr2 d 28 7 _ _ _).trans rfl
set_option maxRecDepth 20000 in
theorem B29_0 (d : Nat) (x1 : Int) (μ : amM) : At cr2 d 29 0 [] [37, x1] μ = bnd (RD cr2 d 28 [37, x1] μ) (fun v1 μ1 => (if v1 = 0 then some (0, μ1) else At cr2 d 29 1 [] [37, 0] μ1)) := (At_eq cr2 d 29 0 _ _ _).trans rfl
set_option maxRecDepth 20000 in
theorem B29_1 (d : Nat) (μ : amM) : At cr2 d 29 1 [] [37, 0] μ = bnd (RD cr2 d 56 [38, 20033] μ) (fun _ μ1 => some (1, μ1)) := (At_eq cr2 d 29 1 _ _ _).trans rfl
set_option maxRecDepth 20000 in
theorem B30_0 (d : Nat) (x1 : Int) (μ : amM) : At cr2 d 30 0 [] [37, x1] μ = bnd (RD cr2 d 26 [37, 0, x1] μ) (fun v1 μ1 => (if v1 = 0 then At cr2 d 30 1 [] [0, 0] μ1 else bnd (RD cr2 d 25 [37] μ1) (fun v2 μ2 => (if v2 = 41 then At cr2 d 30 2 [] [37, 0] μ2 else At cr2 d 30 1 [] [0, 0] μ2)))) := (At_eq cr2 d 30 0 _ _ _).trans rfl
set_option maxRecDepth 20000 in
theorem B30_1 (d : Nat) (μ : amM) : At cr2 d 30 1 [] [0, 0] μ = some (0, μ) := (At_eq cr2 d 30 1 _ _ _).trans rfl
set_option maxRecDepth 20000 in
theorem B30_2 (d : Nat) (μ : amM) : At cr2 d 30 2 [] [37, 0] μ = wf 37 3 μ (w32 ((μ 37 3) + 1)) (fun μ1 => some (1, μ1)) := (At_eq cr2 d 30 2 _ _ _).trans rfl
set_option maxRecDepth 20000 in
theorem B31_0 (d : Nat) (μ : amM) : At cr2 d 31 0 [] [37, 0, 0] μ = At cr2 d 31 1 [] [37, 0, 0] μ := (At_eq cr2 d 31 0 _ _ _).trans rfl
set_option maxRecDepth 20000 in
theorem B31_1 (d : Nat) (x1 x2 : Int) (μ : amM) : At cr2 d 31 1 [] [37, x1, x2] μ = (if x2 < 4 then bnd (RD cr2 d 25 [37] μ) (fun v1 μ1 => bnd (RD cr2 d 32 [v1] μ1) (fun v2 μ2 => (if v2 = 0 then At cr2 d 31 2 [] [37, x1, 0] μ2 else bnd (RD cr2 d 25 [37] μ2) (fun v3 μ3 => wf 37 3 μ3 (w32 ((μ3 37 3) + 1)) (fun μ4 => At cr2 d 31 1 [] [37, (w32 ((w32 ((w32 (10 * x1)) + v3)) - 48)), (w32 (x2 + 1))] μ4))))) else At cr2 d 31 2 [] [37, x1, 0] μ) := (At_eq cr2 d 31 1 _ _ _).trans rfl
set_option maxRecDepth 20000 in
theorem B31_2 (d : Nat) (x1 : Int) (μ : amM) : At cr2 d 31 2 [] [37, x1, 0] μ = bnd (RD cr2 d 56 [38, x1] μ) (fun _ μ1 => some (0, μ1)) := (At_eq cr2 d 31 2 _ _ _).trans rfl
set_option maxRecDepth 20000 in
theorem B32_0 (d : Nat) (x0 : Int) (μ : amM) : At cr2 d 32 0 [] [x0] μ = (if x0 < 48 then At cr2 d 32 1 [] [0] μ else (if 57 < x0 then At cr2 d 32 1 [] [0] μ else At cr2 d 32 2 [1] [0] μ)) := (At_eq cr2 d 32 0 _ _ _).trans rfl
set_option maxRecDepth 20000 in
theorem B32_1 (d : Nat) (μ : amM) : At cr2 d 32 1 [] [0] μ = At cr2 d 32 2 [0] [0] μ := (At_eq cr2 d 32 1 _ _ _).trans rfl
set_option maxRecDepth 20000 in
theorem B32_2 (d : Nat) (s0 : Int) (μ : amM) : At cr2 d 32 2 [s0] [0] μ = rb s0 μ := (At_eq cr2 d 32 2 _ _ _).trans rfl
set_option maxRecDepth 20000 in
theorem B33_0 (d : Nat) (x1 : Int) (μ : amM) : At cr2 d 33 0 [] [37, x1] μ = (if x1 = 99 then At cr2 d 33 7 [] [37, 0] μ else if x1 = 100 then At cr2 d 33 13 [] [37, 0] μ else if x1 = 101 then At cr2 d 33 19 [] [0, 0] μ else if x1 = 102 then At cr2 d 33 19 [] [0, 0] μ else if x1 = 103 then At cr2 d 33 19 [] [0, 0] μ else if x1 = 104 then At cr2 d 33 19 [] [0, 0] μ else if x1 = 105 then At cr2 d 33 19 [] [0, 0] μ else if x1 = 106 then At cr2 d 33 19 [] [0, 0] μ else if x1 = 107 then At cr2 d 33 1 [] [37, 0] μ else if x1 = 108 then At cr2 d 33 19 [] [0, 0] μ else if x1 = 109 then At cr2 d 33 4 [] [37, 0] μ else if x1 = 110 then At cr2 d 33 19 [] [0, 0] μ else if x1 = 111 then At cr2 d 33 19 [] [0, 0] μ else if x1 = 112 then At cr2 d 33 19 [] [0, 0] μ else if x1 = 113 then At cr2 d 33 19 [] [0, 0] μ else if x1 = 114 then At cr2 d 33 10 [] [37, 0] μ else if x1 = 115 then At cr2 d 33 19 [] [0, 0] μ else if x1 = 116 then At cr2 d 33 19 [] [0, 0] μ else if x1 = 117 then At cr2 d 33 19 [] [0, 0] μ else if x1 = 118 then At cr2 d 33 16 [] [37, 0] μ else At cr2 d 33 19 [] [0, 0] μ) := (At_eq cr2 d 33 0 _ _ _).trans rfl
set_option maxRecDepth 20000 in
theorem B33_1 (d : Nat) (μ : amM) : At cr2 d 33 1 [] [37, 0] μ = (if (μ 37 4) = 0 then At cr2 d 33 3 [0] [0, 0] μ else At cr2 d 33 2 [] [0, 0] μ) := (At_eq cr2 d 33 1 _ _ _).trans rfl
set_option maxRecDepth 20000 in
theorem B33_2 (d : Nat) (μ : amM) : At cr2 d 33 2 [] [0, 0] μ = At cr2 d 33 3 [(-1)] [0, 0] μ := (At_eq cr2 d 33 2 _ _ _).trans rfl
set_option maxRecDepth 20000 in
theorem B33_3 (d : Nat) (s0 : Int) (μ : amM) : At cr2 d 33 3 [s0] [0, 0] μ = some (s0, μ) := (At_eq cr2 d 33 3 _ _ _).trans rfl
set_option maxRecDepth 20000 in
theorem B33_4 (d : Nat) (μ : amM) : At cr2 d 33 4 [] [37, 0] μ = (if (μ 37 4) = 0 then At cr2 d 33 6 [1] [0, 0] μ else At cr2 d 33 5 [] [0, 0] μ) := (At_eq cr2 d 33 4 _ _ _).trans rfl
set_option maxRecDepth 20000 in
theorem B33_5 (d : Nat) (μ : amM) : At cr2 d 33 5 [] [0, 0] μ = At cr2 d 33 6 [(-1)] [0, 0] μ := (At_eq cr2 d 33 5 _ _ _).trans rfl
set_option maxRecDepth 20000 in
theorem B33_6 (d : Nat) (s0 : Int) (μ : amM) : At cr2 d 33 6 [s0] [0, 0] μ = some (s0, μ) := (At_eq cr2 d 33 6 _ _ _).trans rfl
set_option maxRecDepth 20000 in
theorem B33_7 (d : Nat) (μ : amM) : At cr2 d 33 7 [] [37, 0] μ = (if (μ 37 4) = 1 then At cr2 d 33 9 [0] [0, 0] μ else At cr2 d 33 8 [] [0, 0] μ) := (At_eq cr2 d 33 7 _ _ _).trans rfl
set_option maxRecDepth 20000 in
theorem B33_8 (d : Nat) (μ : amM) : At cr2 d 33 8 [] [0, 0] μ = At cr2 d 33 9 [(-1)] [0, 0] μ := (At_eq cr2 d 33 8 _ _ _).trans rfl
set_option maxRecDepth 20000 in
theorem B33_9 (d : Nat) (s0 : Int) (μ : amM) : At cr2 d 33 9 [s0] [0, 0] μ = some (s0, μ) := (At_eq cr2 d 33 9 _ _ _).trans rfl
set_option maxRecDepth 20000 in
theorem B33_10 (d : Nat) (μ : amM) : At cr2 d 33 10 [] [37, 0] μ = (if (μ 37 4) = 1 then At cr2 d 33 12 [1] [0, 0] μ else At cr2 d 33 11 [] [0, 0] μ) := (At_eq cr2 d 33 10 _ _ _).trans rfl
set_option maxRecDepth 20000 in
theorem B33_11 (d : Nat) (μ : amM) : At cr2 d 33 11 [] [0, 0] μ = At cr2 d 33 12 [(-1)] [0, 0] μ := (At_eq cr2 d 33 11 _ _ _).trans rfl
set_option maxRecDepth 20000 in
theorem B33_12 (d : Nat) (s0 : Int) (μ : amM) : At cr2 d 33 12 [s0] [0, 0] μ = some (s0, μ) := (At_eq cr2 d 33 12 _ _ _).trans rfl
set_option maxRecDepth 20000 in
theorem B33_13 (d : Nat) (μ : amM) : At cr2 d 33 13 [] [37, 0] μ = (if (μ 37 4) = 1 then At cr2 d 33 15 [2] [0, 0] μ else At cr2 d 33 14 [] [0, 0] μ) := (At_eq cr2 d 33 13 _ _ _).trans rfl
set_option maxRecDepth 20000 in
theorem B33_14 (d : Nat) (μ : amM) : At cr2 d 33 14 [] [0, 0] μ = At cr2 d 33 15 [(-1)] [0, 0] μ := (At_eq cr2 d 33 14 _ _ _).trans rfl
set_option maxRecDepth 20000 in
theorem B33_15 (d : Nat) (s0 : Int) (μ : amM) : At cr2 d 33 15 [s0] [0, 0] μ = some (s0, μ) := (At_eq cr2 d 33 15 _ _ _).trans rfl
set_option maxRecDepth 20000 in
theorem B33_16 (d : Nat) (μ : amM) : At cr2 d 33 16 [] [37, 0] μ = (if (μ 37 4) = 1 then At cr2 d 33 18 [3] [0, 0] μ else At cr2 d 33 17 [] [0, 0] μ) := (At_eq cr2 d 33 16 _ _ _).trans rfl
set_option maxRecDepth 20000 in
theorem B33_17 (d : Nat) (μ : amM) : At cr2 d 33 17 [] [0, 0] μ = At cr2 d 33 18 [(-1)] [0, 0] μ := (At_eq cr2 d 33 17 _ _ _).trans rfl
set_option maxRecDepth 20000 in
theorem B33_18 (d : Nat) (s0 : Int) (μ : amM) : At cr2 d 33 18 [s0] [0, 0] μ = some (s0, μ) := (At_eq cr2 d 33 18 _ _ _).trans rfl
set_option maxRecDepth 20000 in
theorem B33_19 (d : Nat) (μ : amM) : At cr2 d 33 19 [] [0, 0] μ = some ((-1), μ) := (At_eq cr2 d 33 19 _ _ _).trans rfl
set_option maxRecDepth 20000 in
theorem B35_0 (d : Nat) (x0 : Int) (μ : amM) : At cr2 d 35 0 [] [x0] μ = amGf cr2 μ 10 1 x0 (fun v1 => (if v1 = 0 then At cr2 d 35 2 [1] [0] μ else At cr2 d 35 1 [] [0] μ)) := (At_eq cr2 d 35 0 _ _ _).trans rfl
set_option maxRecDepth 20000 in
theorem B35_1 (d : Nat) (μ : amM) : At cr2 d 35 1 [] [0] μ = At cr2 d 35 2 [0] [0] μ := (At_eq cr2 d 35 1 _ _ _).trans rfl
set_option maxRecDepth 20000 in
theorem B35_2 (d : Nat) (s0 : Int) (μ : amM) : At cr2 d 35 2 [s0] [0] μ = rb s0 μ := (At_eq cr2 d 35 2 _ _ _).trans rfl
set_option maxRecDepth 20000 in
theorem B36_0 (d : Nat) (x0 x1 x2 : Int) (μ : amM) : At cr2 d 36 0 [] [x0, x1, x2, 0] μ = amPf cr2 μ 10 1 x0 x1 (fun μ1 => amPf cr2 μ1 10 2 x0 x2 (fun μ2 => At cr2 d 36 1 [] [x0, 0, x2, 0] μ2)) := (At_eq cr2 d 36 0 _ _ _).trans rfl
set_option maxRecDepth 20000 in
theorem B36_1 (d : Nat) (x0 x2 x3 : Int) (μ : amM) : At cr2 d 36 1 [] [x0, 0, x2, x3] μ = (if x3 < x2 then amGf cr2 μ 10 0 x0 (fun v1 => amPst 20 μ v1 x3 0 (fun μ1 => At cr2 d 36 1 [] [x0, 0, x2, (w32 (x3 + 1))] μ1)) else At cr2 d 36 2 [] [0, 0, 0, 0] μ) := (At_eq cr2 d 36 1 _ _ _).trans rfl
set_option maxRecDepth 20000 in
theorem B36_2 (d : Nat) (μ : amM) : At cr2 d 36 2 [] [0, 0, 0, 0] μ = some (0, μ) := (At_eq cr2 d 36 2 _ _ _).trans rfl
set_option maxRecDepth 20000 in
theorem B37_0 (d : Nat) (x0 x1 x2 : Int) (μ : amM) : At cr2 d 37 0 [] [x0, x1, x2, 0] μ = amGf cr2 μ 10 1 x0 (fun v1 => amGf cr2 μ 10 0 x0 (fun v2 => amPst 20 μ v2 x1 (bShr (bShl x2 (w32 (32 - v1))) (w32 (32 - v1))) (fun μ1 => some (0, μ1)))) := (At_eq cr2 d 37 0 _ _ _).trans rfl
set_option maxRecDepth 20000 in
theorem B38_0 (d : Nat) (x0 x1 x2 : Int) (μ : amM) : At cr2 d 38 0 [] [x0, x1, x2] μ = (if x1 < 0 then At cr2 d 38 1 [] [0, 0, 0] μ else (if x2 < 0 then At cr2 d 38 1 [] [0, 0, 0] μ else amGf cr2 μ 10 2 x0 (fun v1 => (if v1 < x2 then At cr2 d 38 1 [] [0, 0, 0] μ else amGf cr2 μ 10 2 x0 (fun v2 => (if (w32 (v2 - x2)) < x1 then At cr2 d 38 1 [] [0, 0, 0] μ else At cr2 d 38 2 [1] [0, 0, 0] μ)))))) := (At_eq cr2 d 38 0 _ _ _).trans rfl
set_option maxRecDepth 20000 in
theorem B38_1 (d : Nat) (μ : amM) : At cr2 d 38 1 [] [0, 0, 0] μ = At cr2 d 38 2 [0] [0, 0, 0] μ := (At_eq cr2 d 38 1 _ _ _).trans rfl
set_option maxRecDepth 20000 in
theorem B38_2 (d : Nat) (s0 : Int) (μ : amM) : At cr2 d 38 2 [s0] [0, 0, 0] μ = rb s0 μ := (At_eq cr2 d 38 2 _ _ _).trans rfl
set_option maxRecDepth 20000 in
theorem B40_0 (d : Nat) (x0 x1 : Int) (μ : amM) : At cr2 d 40 0 [] [x0, x1, 0] μ = amGf cr2 μ 1 0 x0 (fun v1 => amGf cr2 μ 1 0 x1 (fun v2 => if amTg v1 = 2 then bnd (RD cr2 d 66 [v1, v2] μ) (fun _ μ1 => At cr2 d 40 1 [] [x0, x1, 0] μ1) else none)) := (At_eq cr2 d 40 0 _ _ _).trans rfl
set_option maxRecDepth 20000 in
theorem B40_1 (d : Nat) (x0 x1 x2 : Int) (μ : amM) : At cr2 d 40 1 [] [x0, x1, x2] μ = (if x2 < 2 then amGf cr2 μ 1 1 x0 (fun v1 => amQld cr2 23 μ v1 x2 (fun v2 => amGf cr2 μ 1 1 x1 (fun v3 => amQld cr2 23 μ v3 x2 (fun v4 => if amTg v2 = 3 then bnd (RD cr2 d 57 [v2, v4] μ) (fun _ μ1 => At cr2 d 40 1 [] [x0, x1, (w32 (x2 + 1))] μ1) else none)))) else At cr2 d 40 2 [] [x0, x1, 0] μ) := (At_eq cr2 d 40 1 _ _ _).trans rfl
set_option maxRecDepth 20000 in
theorem B40_2 (d : Nat) (x0 x1 : Int) (μ : amM) : At cr2 d 40 2 [] [x0, x1, 0] μ = amGf cr2 μ 1 2 x1 (fun v1 => amGf cr2 μ 1 2 x0 (fun v2 => amCpy μ v1 0 v2 0 50 (fun μ1 => amGf cr2 μ1 1 3 x1 (fun v3 => amGf cr2 μ1 1 3 x0 (fun v4 => amCpy μ1 v3 0 v4 0 20 (fun μ2 => amGf cr2 μ2 1 4 x1 (fun v5 => amPf cr2 μ2 1 4 x0 v5 (fun μ3 => amGf cr2 μ3 1 5 x1 (fun v6 => amPf cr2 μ3 1 5 x0 v6 (fun μ4 => amGf cr2 μ4 1 6 x1 (fun v7 => amPf cr2 μ4 1 6 x0 v7 (fun μ5 => amGf cr2 μ5 1 7 x1 (fun v8 => amPf cr2 μ5 1 7 x0 v8 (fun μ6 => amGf cr2 μ6 1 8 x1 (fun v9 => amPf cr2 μ6 1 8 x0 v9 (fun μ7 => some (0, μ7))))))))))))))))) := (At_eq cr2 d 40 2 _ _ _).trans rfl
set_option maxRecDepth 20000 in
theorem B41_0 (d : Nat) (μ : amM) : At cr2 d 41 0 [] [1] μ = wf 1 8 μ (w32 ((w32 ((μ 1 8) * 1103515245)) + 12345)) (fun μ1 => some ((bUshr (μ1 1 8) 8), μ1)) := (At_eq cr2 d 41 0 _ _ _).trans rfl
set_option maxRecDepth 20000 in
theorem B42_0 (d : Nat) (x1 x2 : Int) (μ : amM) : At cr2 d 42 0 [] [1, x1, x2, 0] μ = bnd (RD cr2 d 54 [13] μ) (fun v2 μ1 => (if v2 = 0 then At cr2 d 42 1 [] [1, x1, x2, 0] μ1 else At cr2 d 42 2 [(w32 (10 + x2))] [0, 0, 0, 0] μ1)) := (At_eq cr2 d 42 0 _ _ _).trans rfl
set_option maxRecDepth 20000 in
theorem B42_1 (d : Nat) (x1 x2 : Int) (μ : amM) : At cr2 d 42 1 [] [1, x1, x2, 0] μ = bnd (RD cr2 d 58 [13, x1, x2, 0, 0] μ) (fun v2 μ1 => At cr2 d 42 2 [v2] [0, 0, 0, 0] μ1) := (At_eq cr2 d 42 1 _ _ _).trans rfl
set_option maxRecDepth 20000 in
theorem B42_2 (d : Nat) (s0 : Int) (μ : amM) : At cr2 d 42 2 [s0] [0, 0, 0, 0] μ = some ((jmax 0 (jmin 99 s0)), μ) := (At_eq cr2 d 42 2 _ _ _).trans rfl
set_option maxRecDepth 20000 in
theorem B43_0 (d : Nat) (x1 x2 x3 x4 : Int) (μ : amM) : At cr2 d 43 0 [] [1, x1, x2, x3, x4] μ = bnd (RD cr2 d 54 [16] μ) (fun v2 μ1 => (if v2 = 0 then At cr2 d 43 1 [] [1, x1, x2, x3, x4] μ1 else some (0, μ1))) := (At_eq cr2 d 43 0 _ _ _).trans rfl
set_option maxRecDepth 20000 in
theorem B43_1 (d : Nat) (x1 x2 x3 x4 : Int) (μ : amM) : At cr2 d 43 1 [] [1, x1, x2, x3, x4] μ = bnd (RD cr2 d 58 [16, x1, x2, x3, x4] μ) (fun v2 μ1 => some ((jmax (-99) (jmin 99 v2)), μ1)) := (At_eq cr2 d 43 1 _ _ _).trans rfl
set_option maxRecDepth 20000 in
theorem B44_0 (d : Nat) (x1 x2 : Int) (μ : amM) : At cr2 d 44 0 [] [1, x1, x2, 0] μ = rd 4 64 μ x1 (fun v1 => rd 3 64 μ x1 (fun v2 => (if v2 = 1 then At cr2 d 44 1 [] [1, 0, x2, v1] μ else if v2 = 2 then At cr2 d 44 2 [] [1, 0, x2, v1] μ else if v2 = 3 then At cr2 d 44 3 [] [0, 0, 0, v1] μ else if v2 = 4 then At cr2 d 44 4 [] [1, 0, x2, v1] μ else if v2 = 5 then At cr2 d 44 5 [] [0, 0, 0, 0] μ else if v2 = 6 then At cr2 d 44 6 [] [0, 0, 0, v1] μ else At cr2 d 44 7 [] [1, 0, x2, v1] μ))) := (At_eq cr2 d 44 0 _ _ _).trans rfl
set_option maxRecDepth 20000 in
theorem B44_1 (d : Nat) (x2 x3 : Int) (μ : amM) : At cr2 d 44 1 [] [1, 0, x2, x3] μ = bnd (RD cr2 d 42 [1, x2, x3] μ) (fun v1 μ1 => some ((w32 (v1.tdiv 2)), μ1)) := (At_eq cr2 d 44 1 _ _ _).trans rfl
set_option maxRecDepth 20000 in
theorem B44_2 (d : Nat) (x2 x3 : Int) (μ : amM) : At cr2 d 44 2 [] [1, 0, x2, x3] μ = bnd (RD cr2 d 42 [1, x2, x3] μ) (fun v1 μ1 => some ((w32 (v1 * 2)), μ1)) := (At_eq cr2 d 44 2 _ _ _).trans rfl
set_option maxRecDepth 20000 in
theorem B44_3 (d : Nat) (x3 : Int) (μ : amM) : At cr2 d 44 3 [] [0, 0, 0, x3] μ = some (x3, μ) := (At_eq cr2 d 44 3 _ _ _).trans rfl
set_option maxRecDepth 20000 in
theorem B44_4 (d : Nat) (x2 x3 : Int) (μ : amM) : At cr2 d 44 4 [] [1, 0, x2, x3] μ = bnd (RD cr2 d 42 [1, x2, x3] μ) (fun v1 μ1 => some ((w32 ((w32 (v1.tdiv 2)) + 5)), μ1)) := (At_eq cr2 d 44 4 _ _ _).trans rfl
set_option maxRecDepth 20000 in
theorem B44_5 (d : Nat) (μ : amM) : At cr2 d 44 5 [] [0, 0, 0, 0] μ = some ((-1), μ) := (At_eq cr2 d 44 5 _ _ _).trans rfl
set_option maxRecDepth 20000 in
theorem B44_6 (d : Nat) (x3 : Int) (μ : amM) : At cr2 d 44 6 [] [0, 0, 0, x3] μ = some ((jmax 0 (w32 (x3 - 3))), μ) := (At_eq cr2 d 44 6 _ _ _).trans rfl
set_option maxRecDepth 20000 in
theorem B44_7 (d : Nat) (x2 x3 : Int) (μ : amM) : At cr2 d 44 7 [] [1, 0, x2, x3] μ = bnd (RD cr2 d 42 [1, x2, x3] μ) (fun v1 μ1 => some (v1, μ1)) := (At_eq cr2 d 44 7 _ _ _).trans rfl
set_option maxRecDepth 20000 in
theorem B45_0 (d : Nat) (x1 : Int) (μ : amM) : At cr2 d 45 0 [] [1, x1] μ = bnd (RD cr2 d 7 [x1, 0] μ) (fun v1 μ1 => bnd (RD cr2 d 7 [x1, 1] μ1) (fun v2 μ2 => bnd (RD cr2 d 7 [x1, 2] μ2) (fun v3 μ3 => bnd (RD cr2 d 7 [x1, 3] μ3) (fun v4 μ4 => bnd (RD cr2 d 43 [1, v1, v2, v3, v4] μ4) (fun v5 μ5 => some (v5, μ5)))))) := (At_eq cr2 d 45 0 _ _ _).trans rfl
set_option maxRecDepth 20000 in
theorem B46_0 (d : Nat) (x1 x2 x3 : Int) (μ : amM) : At cr2 d 46 0 [] [1, x1, x2, x3, 0] μ = rd 5 64 μ x1 (fun v1 => bnd (RD cr2 d 8 [v1, x2, x3] μ) (fun v2 μ1 => bnd (RD cr2 d 45 [1, v2] μ1) (fun v3 μ2 => bnd (RD cr2 d 45 [1, v1] μ2) (fun v4 μ3 => bnd (RD cr2 d 44 [1, x1, x2] μ3) (fun v5 μ4 => some ((w32 ((w32 (v3 - v4)) - v5)), μ4)))))) := (At_eq cr2 d 46 0 _ _ _).trans rfl
set_option maxRecDepth 20000 in
theorem B47_0 (d : Nat) (x1 x2 x3 : Int) (μ : amM) : At cr2 d 47 0 [] [1, x1, x2, x3] μ = bnd (RD cr2 d 44 [1, x1, x2] μ) (fun v1 μ1 => wf 1 7 μ1 (jmin 999999 (w32 ((μ 1 7) + v1))) (fun μ2 => rd 5 64 μ2 x1 (fun v2 => bnd (RD cr2 d 8 [v2, x2, x3] μ2) (fun v3 μ3 => wr 5 64 μ3 x1 v3 (fun μ4 => some (0, μ4)))))) := (At_eq cr2 d 47 0 _ _ _).trans rfl
set_option maxRecDepth 20000 in
theorem B48_0 (d : Nat) (x1 : Int) (μ : amM) : At cr2 d 48 0 [] [1, x1, 0, 0, 0, 0, 0, 0] μ = bnd (RD cr2 d 79 [2] μ) (fun v1 μ1 => At cr2 d 48 1 [] [1, x1, 0, v1, 0, 0, 0, 0] μ1) := (At_eq cr2 d 48 0 _ _ _).trans rfl
set_option maxRecDepth 20000 in
theorem B48_1 (d : Nat) (x1 x2 x3 x4 : Int) (μ : amM) : At cr2 d 48 1 [] [1, x1, x2, x3, x4, 0, 0, 0] μ = (if x4 < x1 then bnd (RD cr2 d 41 [1] μ) (fun v1 μ1 => if (μ1 2 10) = 0 then none else bnd (RD cr2 d 41 [1] μ1) (fun v2 μ2 => bnd (RD cr2 d 41 [1] μ2) (fun v3 μ3 => bnd (RD cr2 d 81 [2, (v1.tmod (μ1 2 10)), (v2.tmod 4), (v3.tmod 3), x3] μ3) (fun v4 μ4 => (if v4 = 0 then At cr2 d 48 2 [] [1, x1, x2, x3, x4, 0, 0, 0] μ4 else bnd (RD cr2 d 47 [1, (v1.tmod (μ1 2 10)), (v2.tmod 4), (v3.tmod 3)] μ4) (fun _ μ5 => At cr2 d 48 2 [] [1, x1, (w32 (x2 + 1)), 0, x4, 0, 0, 0] μ5)))))) else At cr2 d 48 3 [] [1, x1, x2, 0, 0, 0, 0, 0] μ) := (At_eq cr2 d 48 1 _ _ _).trans rfl
set_option maxRecDepth 20000 in
theorem B48_2 (d : Nat) (x1 x2 x3 x4 : Int) (μ : amM) : At cr2 d 48 2 [] [1, x1, x2, x3, x4, 0, 0, 0] μ = At cr2 d 48 1 [] [1, x1, x2, x3, (w32 (x4 + 1)), 0, 0, 0] μ := (At_eq cr2 d 48 2 _ _ _).trans rfl
set_option maxRecDepth 20000 in
theorem B48_3 (d : Nat) (x1 x2 : Int) (μ : amM) : At cr2 d 48 3 [] [1, x1, x2, 0, 0, 0, 0, 0] μ = wf 1 6 μ (w32 ((μ 1 6) + x1)) (fun μ1 => some (x2, μ1)) := (At_eq cr2 d 48 3 _ _ _).trans rfl
set_option maxRecDepth 20000 in
theorem B50_0 (d : Nat) (x2 x3 x4 : Int) (μ : amM) : At cr2 d 50 0 [] [50, 2, x2, x3, x4, 0] μ = wf 50 1 μ 2 (fun μ1 => wf 50 2 μ1 x2 (fun μ2 => wf 50 3 μ2 x3 (fun μ3 => wf 50 4 μ3 x4 (fun μ4 => if μ4 50 1 = 2 then rd 5 64 μ4 (μ4 50 2) (fun v1 => bnd (RD cr2 d 7 [v1, (μ4 50 3)] μ4) (fun v2 μ5 => (if v2 = (μ5 50 4) then some (0, μ5) else At cr2 d 50 1 [] [50, 0, 0, 0, 0, 0] μ5))) else none)))) := (At_eq cr2 d 50 0 _ _ _).trans rfl
set_option maxRecDepth 20000 in
theorem B50_1 (d : Nat) (μ : amM) : At cr2 d 50 1 [] [50, 0, 0, 0, 0, 0] μ = if μ 50 1 = 2 then bnd (RD cr2 d 71 [2, (μ 50 2), (μ 50 3), (μ 50 4)] μ) (fun v1 μ1 => (if v1 = 0 then some ((-1), μ1) else At cr2 d 50 2 [] [50, 0, 0, 0, 0, 0] μ1)) else none := (At_eq cr2 d 50 1 _ _ _).trans rfl
set_option maxRecDepth 20000 in
theorem B50_2 (d : Nat) (μ : amM) : At cr2 d 50 2 [] [50, 0, 0, 0, 0, 0] μ = wf 51 0 μ (μ 50 2) (fun μ1 => if μ1 50 1 = 2 then if μ1 50 1 = 2 then rd 7 64 μ1 (μ1 50 2) (fun v1 => amCpy μ1 6 (w32 ((μ1 50 2) * 4)) 51 1 v1 (fun μ2 => At cr2 d 50 3 [] [50, 0, 0, 0, 0, 1] μ2)) else none else none) := (At_eq cr2 d 50 2 _ _ _).trans rfl
set_option maxRecDepth 20000 in
theorem B50_3 (d : Nat) (x5 : Int) (μ : amM) : At cr2 d 50 3 [] [50, 0, 0, 0, 0, x5] μ = (if 3 < x5 then At cr2 d 50 5 [] [0, 0, 0, 0, 0, 0] μ else bnd (RD cr2 d 51 [50, x5] μ) (fun v1 μ1 => (if v1 = 0 then At cr2 d 50 4 [] [50, 0, 0, 0, 0, x5] μ1 else some (x5, μ1)))) := (At_eq cr2 d 50 3 _ _ _).trans rfl
set_option maxRecDepth 20000 in
theorem B50_4 (d : Nat) (x5 : Int) (μ : amM) : At cr2 d 50 4 [] [50, 0, 0, 0, 0, x5] μ = At cr2 d 50 3 [] [50, 0, 0, 0, 0, (w32 (x5 + 1))] μ := (At_eq cr2 d 50 4 _ _ _).trans rfl
set_option maxRecDepth 20000 in
theorem B50_5 (d : Nat) (μ : amM) : At cr2 d 50 5 [] [0, 0, 0, 0, 0, 0] μ = some ((-1), μ) := (At_eq cr2 d 50 5 _ _ _).trans rfl
set_option maxRecDepth 20000 in
theorem B51_0 (d : Nat) (x1 : Int) (μ : amM) : At cr2 d 51 0 [] [50, x1, 0, 0] μ = (if 1 < x1 then At cr2 d 51 1 [] [50, x1, 0, 0] μ else if μ 50 1 = 2 then bnd (RD cr2 d 81 [2, (μ 50 2), (μ 50 3), (μ 50 4), 0] μ) (fun v1 μ1 => rb v1 μ1) else none) := (At_eq cr2 d 51 0 _ _ _).trans rfl
set_option maxRecDepth 20000 in
theorem B51_1 (d : Nat) (x1 : Int) (μ : amM) : At cr2 d 51 1 [] [50, x1, 0, 0] μ = At cr2 d 51 2 [] [50, x1, 0, 0] μ := (At_eq cr2 d 51 1 _ _ _).trans rfl
set_option maxRecDepth 20000 in
theorem B51_2 (d : Nat) (x1 x2 : Int) (μ : amM) : At cr2 d 51 2 [] [50, x1, x2, 0] μ = if μ 50 1 = 2 then rd 7 64 μ (μ 50 2) (fun v1 => (if v1 < x2 then At cr2 d 51 6 [] [0, 0, 0, 0] μ else At cr2 d 51 3 [] [50, x1, x2, 0] μ)) else none := (At_eq cr2 d 51 2 _ _ _).trans rfl
set_option maxRecDepth 20000 in
theorem B51_3 (d : Nat) (x1 x2 x3 : Int) (μ : amM) : At cr2 d 51 3 [] [50, x1, x2, x3] μ = (if x3 < 12 then rd 51 5 μ x2 (fun v1 => bnd (RD cr2 d 52 [50, v1, (w32 (x3.tdiv 3)), (x3.tmod 3), x1] μ) (fun v2 μ1 => (if v2 = 0 then At cr2 d 51 4 [] [50, x1, x2, x3] μ1 else some (1, μ1)))) else At cr2 d 51 5 [] [50, x1, x2, 0] μ) := (At_eq cr2 d 51 3 _ _ _).trans rfl
set_option maxRecDepth 20000 in
theorem B51_4 (d : Nat) (x1 x2 x3 : Int) (μ : amM) : At cr2 d 51 4 [] [50, x1, x2, x3] μ = At cr2 d 51 3 [] [50, x1, x2, (w32 (x3 + 1))] μ := (At_eq cr2 d 51 4 _ _ _).trans rfl
set_option maxRecDepth 20000 in
theorem B51_5 (d : Nat) (x1 x2 : Int) (μ : amM) : At cr2 d 51 5 [] [50, x1, x2, 0] μ = At cr2 d 51 2 [] [50, x1, (w32 (x2 + 1)), 0] μ := (At_eq cr2 d 51 5 _ _ _).trans rfl
set_option maxRecDepth 20000 in
theorem B51_6 (d : Nat) (μ : amM) : At cr2 d 51 6 [] [0, 0, 0, 0] μ = some (0, μ) := (At_eq cr2 d 51 6 _ _ _).trans rfl
set_option maxRecDepth 20000 in
theorem B52_0 (d : Nat) (x1 x2 x3 x4 : Int) (μ : amM) : At cr2 d 52 0 [] [50, x1, x2, x3, x4, 0, 0] μ = if μ 50 1 = 2 then bnd (RD cr2 d 81 [2, x1, x2, x3, 0] μ) (fun v1 μ1 => (if v1 = 0 then some (0, μ1) else At cr2 d 52 1 [] [50, x1, x2, x3, x4, 0, 0] μ1)) else none := (At_eq cr2 d 52 0 _ _ _).trans rfl
set_option maxRecDepth 20000 in
theorem B52_1 (d : Nat) (x1 x2 x3 x4 : Int) (μ : amM) : At cr2 d 52 1 [] [50, x1, x2, x3, x4, 0, 0] μ = if μ 50 1 = 2 then rd 5 64 μ x1 (fun v1 => if μ 50 1 = 2 then bnd (RD cr2 d 8 [v1, x2, x3] μ) (fun v2 μ1 => wr 5 64 μ1 x1 v2 (fun μ2 => bnd (RD cr2 d 51 [50, (w32 (x4 - 1))] μ2) (fun v3 μ3 => if μ3 50 1 = 2 then wr 5 64 μ3 x1 v1 (fun μ4 => rb v3 μ4) else none))) else none) else none := (At_eq cr2 d 52 1 _ _ _).trans rfl
set_option maxRecDepth 20000 in
theorem B54_0 (d : Nat) (x0 : Int) (μ : amM) : At cr2 d 54 0 [] [x0] μ = amGf cr2 μ 3 2 x0 (fun v1 => (if v1 = 0 then At cr2 d 54 2 [1] [0] μ else At cr2 d 54 1 [] [0] μ)) := (At_eq cr2 d 54 0 _ _ _).trans rfl
set_option maxRecDepth 20000 in
theorem B54_1 (d : Nat) (μ : amM) : At cr2 d 54 1 [] [0] μ = At cr2 d 54 2 [0] [0] μ := (At_eq cr2 d 54 1 _ _ _).trans rfl
set_option maxRecDepth 20000 in
theorem B54_2 (d : Nat) (s0 : Int) (μ : amM) : At cr2 d 54 2 [s0] [0] μ = rb s0 μ := (At_eq cr2 d 54 2 _ _ _).trans rfl
set_option maxRecDepth 20000 in
theorem B55_0 (d : Nat) (μ : amM) : At cr2 d 55 0 [] [38] μ = wf 38 2 μ 0 (fun μ1 => some (0, μ1)) := (At_eq cr2 d 55 0 _ _ _).trans rfl
set_option maxRecDepth 20000 in
theorem B56_0 (d : Nat) (x1 : Int) (μ : amM) : At cr2 d 56 0 [] [38, x1] μ = (if (μ 38 2) < 50 then wr 39 50 μ (μ 38 2) x1 (fun μ1 => wf 38 2 μ1 (w32 ((μ1 38 2) + 1)) (fun μ2 => At cr2 d 56 1 [] [0, 0] μ2)) else At cr2 d 56 1 [] [0, 0] μ) := (At_eq cr2 d 56 0 _ _ _).trans rfl
set_option maxRecDepth 20000 in
theorem B56_1 (d : Nat) (μ : amM) : At cr2 d 56 1 [] [0, 0] μ = some (0, μ) := (At_eq cr2 d 56 1 _ _ _).trans rfl
set_option maxRecDepth 20000 in
theorem B57_0 (d : Nat) (x0 x1 : Int) (μ : amM) : At cr2 d 57 0 [] [x0, x1] μ = amGf cr2 μ 3 0 x1 (fun v1 => amGf cr2 μ 3 0 x0 (fun v2 => amCpy μ v1 0 v2 0 50 (fun μ1 => amGf cr2 μ1 3 2 x1 (fun v3 => amPf cr2 μ1 3 2 x0 v3 (fun μ2 => some (0, μ2)))))) := (At_eq cr2 d 57 0 _ _ _).trans rfl
set_option maxRecDepth 20000 in
theorem B58_0 (d : Nat) (x0 x1 x2 x3 x4 : Int) (μ : amM) : At cr2 d 58 0 [] [x0, x1, x2, x3, x4, 0, 0, 0] μ = At cr2 d 58 1 [] [x0, x1, x2, x3, x4, (-1), 0, 0] μ := (At_eq cr2 d 58 0 _ _ _).trans rfl
set_option maxRecDepth 20000 in
theorem B58_1 (d : Nat) (x0 x1 x2 x3 x4 x5 x6 : Int) (μ : amM) : At cr2 d 58 1 [] [x0, x1, x2, x3, x4, x5, x6, 0] μ = amGf cr2 μ 3 2 x0 (fun v1 => (if x6 < v1 then amGf cr2 μ 3 0 x0 (fun v2 => amAld μ v2 x6 (fun v3 => (if v3 < 20000 then amGf cr2 μ 3 1 x0 (fun v4 => (if v3 < 10000 then At cr2 d 58 3 [v3, (w32 (x5 + 1)), v4] [x0, x1, x2, x3, x4, (w32 (x5 + 1)), x6, 0] μ else At cr2 d 58 2 [(w32 (x5 + 1)), v4] [x0, x1, x2, x3, x4, (w32 (x5 + 1)), x6, v3] μ)) else At cr2 d 58 4 [] [x0, x1, x2, x3, x4, x5, x6, v3] μ))) else At cr2 d 58 9 [] [x0, 0, 0, 0, 0, 0, 0, 0] μ)) := (At_eq cr2 d 58 1 _ _ _).trans rfl
set_option maxRecDepth 20000 in
theorem B58_2 (d : Nat) (s0 s1 x0 x1 x2 x3 x4 x5 x6 x7 : Int) (μ : amM) : At cr2 d 58 2 [s0, s1] [x0, x1, x2, x3, x4, x5, x6, x7] μ = bnd (RD cr2 d 59 [(w32 (x7 - 10000)), x1, x2, x3, x4] μ) (fun v1 μ1 => At cr2 d 58 3 [v1, s0, s1] [x0, x1, x2, x3, x4, x5, x6, 0] μ1) := (At_eq cr2 d 58 2 _ _ _).trans rfl
set_option maxRecDepth 20000 in
theorem B58_3 (d : Nat) (s0 s1 s2 x0 x1 x2 x3 x4 x5 x6 : Int) (μ : amM) : At cr2 d 58 3 [s0, s1, s2] [x0, x1, x2, x3, x4, x5, x6, 0] μ = amPst 20 μ s2 s1 s0 (fun μ1 => At cr2 d 58 8 [] [x0, x1, x2, x3, x4, x5, x6, 0] μ1) := (At_eq cr2 d 58 3 _ _ _).trans rfl
set_option maxRecDepth 20000 in
theorem B58_4 (d : Nat) (x0 x1 x2 x3 x4 x5 x6 x7 : Int) (μ : amM) : At cr2 d 58 4 [] [x0, x1, x2, x3, x4, x5, x6, x7] μ = (if x7 = 20033 then (if x5 < 0 then At cr2 d 58 7 [] [x0, x1, x2, x3, x4, x5, x6, x7] μ else amGf cr2 μ 3 1 x0 (fun v1 => amGf cr2 μ 3 1 x0 (fun v2 => amAld μ v2 x5 (fun v3 => (if v3 = 0 then At cr2 d 58 6 [1, x5, v1] [x0, x1, x2, x3, x4, x5, x6, 0] μ else At cr2 d 58 5 [x5, v1] [x0, x1, x2, x3, x4, x5, x6, 0] μ))))) else At cr2 d 58 7 [] [x0, x1, x2, x3, x4, x5, x6, x7] μ) := (At_eq cr2 d 58 4 _ _ _).trans rfl
set_option maxRecDepth 20000 in
theorem B58_5 (d : Nat) (s0 s1 x0 x1 x2 x3 x4 x5 x6 : Int) (μ : amM) : At cr2 d 58 5 [s0, s1] [x0, x1, x2, x3, x4, x5, x6, 0] μ = At cr2 d 58 6 [0, s0, s1] [x0, x1, x2, x3, x4, x5, x6, 0] μ := (At_eq cr2 d 58 5 _ _ _).trans rfl
set_option maxRecDepth 20000 in
theorem B58_6 (d : Nat) (s0 s1 s2 x0 x1 x2 x3 x4 x5 x6 : Int) (μ : amM) : At cr2 d 58 6 [s0, s1, s2] [x0, x1, x2, x3, x4, x5, x6, 0] μ = amPst 20 μ s2 s1 s0 (fun μ1 => At cr2 d 58 8 [] [x0, x1, x2, x3, x4, x5, x6, 0] μ1) := (At_eq cr2 d 58 6 _ _ _).trans rfl
set_option maxRecDepth 20000 in
theorem B58_7 (d : Nat) (x0 x1 x2 x3 x4 x5 x6 x7 : Int) (μ : amM) : At cr2 d 58 7 [] [x0, x1, x2, x3, x4, x5, x6, x7] μ = (if 0 < x5 then amGf cr2 μ 3 1 x0 (fun v1 => amGf cr2 μ 3 1 x0 (fun v2 => amAld μ v2 (w32 (x5 + (-1))) (fun v3 => amGf cr2 μ 3 1 x0 (fun v4 => amAld μ v4 (w32 ((w32 (x5 + (-1))) + 1)) (fun v5 => bnd (RD cr2 d 60 [(w32 (x7 - 20000)), v3, v5] μ) (fun v6 μ1 => amPst 20 μ1 v1 (w32 (x5 + (-1))) v6 (fun μ2 => At cr2 d 58 8 [] [x0, x1, x2, x3, x4, (w32 (x5 + (-1))), x6, 0] μ2))))))) else At cr2 d 58 8 [] [x0, x1, x2, x3, x4, x5, x6, 0] μ) := (At_eq cr2 d 58 7 _ _ _).trans rfl
set_option maxRecDepth 20000 in
theorem B58_8 (d : Nat) (x0 x1 x2 x3 x4 x5 x6 : Int) (μ : amM) : At cr2 d 58 8 [] [x0, x1, x2, x3, x4, x5, x6, 0] μ = At cr2 d 58 1 [] [x0, x1, x2, x3, x4, x5, (w32 (x6 + 1)), 0] μ := (At_eq cr2 d 58 8 _ _ _).trans rfl
set_option maxRecDepth 20000 in
theorem B58_9 (d : Nat) (x0 : Int) (μ : amM) : At cr2 d 58 9 [] [x0, 0, 0, 0, 0, 0, 0, 0] μ = amGf cr2 μ 3 1 x0 (fun v1 => amAld μ v1 0 (fun v2 => some (v2, μ))) := (At_eq cr2 d 58 9 _ _ _).trans rfl
set_option maxRecDepth 20000 in
theorem B59_0 (d : Nat) (x0 x1 x2 x3 x4 : Int) (μ : amM) : At cr2 d 59 0 [] [x0, x1, x2, x3, x4] μ = (if x0 = 0 then At cr2 d 59 1 [] [0, x1, 0, 0, 0] μ else if x0 = 1 then At cr2 d 59 2 [] [0, 0, x2, 0, 0] μ else if x0 = 2 then At cr2 d 59 3 [] [0, 0, 0, x3, 0] μ else At cr2 d 59 4 [] [0, 0, 0, 0, x4] μ) := (At_eq cr2 d 59 0 _ _ _).trans rfl
set_option maxRecDepth 20000 in
theorem B59_1 (d : Nat) (x1 : Int) (μ : amM) : At cr2 d 59 1 [] [0, x1, 0, 0, 0] μ = some (x1, μ) := (At_eq cr2 d 59 1 _ _ _).trans rfl
set_option maxRecDepth 20000 in
theorem B59_2 (d : Nat) (x2 : Int) (μ : amM) : At cr2 d 59 2 [] [0, 0, x2, 0, 0] μ = some (x2, μ) := (At_eq cr2 d 59 2 _ _ _).trans rfl
set_option maxRecDepth 20000 in
theorem B59_3 (d : Nat) (x3 : Int) (μ : amM) : At cr2 d 59 3 [] [0, 0, 0, x3, 0] μ = some (x3, μ) := (At_eq cr2 d 59 3 _ _ _).trans rfl
set_option maxRecDepth 20000 in
theorem B59_4 (d : Nat) (x4 : Int) (μ : amM) : At cr2 d 59 4 [] [0, 0, 0, 0, x4] μ = some (x4, μ) := (At_eq cr2 d 59 4 _ _ _).trans rfl
set_option maxRecDepth 20000 in
theorem B60_0 (d : Nat) (x0 x1 x2 : Int) (μ : amM) : At cr2 d 60 0 [] [x0, x1, x2] μ = (if x0 = 38 then At cr2 d 60 5 [] [0, x1, x2] μ else if x0 = 42 then At cr2 d 60 19 [] [0, x1, x2] μ else if x0 = 43 then At cr2 d 60 17 [] [0, x1, x2] μ else if x0 = 45 then At cr2 d 60 18 [] [0, x1, x2] μ else if x0 = 47 then At cr2 d 60 20 [] [0, x1, x2] μ else if x0 = 60 then At cr2 d 60 8 [] [0, x1, x2] μ else if x0 = 61 then At cr2 d 60 11 [] [0, x1, x2] μ else if x0 = 62 then At cr2 d 60 14 [] [0, x1, x2] μ else if x0 = 124 then At cr2 d 60 1 [] [0, x1, x2] μ else At cr2 d 60 23 [] [0, x1, x2] μ) := (At_eq cr2 d 60 0 _ _ _).trans rfl
set_option maxRecDepth 20000 in
theorem B60_1 (d : Nat) (x1 x2 : Int) (μ : amM) : At cr2 d 60 1 [] [0, x1, x2] μ = (if x1 = 0 then (if x2 = 0 then At cr2 d 60 3 [] [0, 0, 0] μ else At cr2 d 60 2 [] [0, 0, 0] μ) else At cr2 d 60 2 [] [0, 0, 0] μ) := (At_eq cr2 d 60 1 _ _ _).trans rfl
set_option maxRecDepth 20000 in
theorem B60_2 (d : Nat) (μ : amM) : At cr2 d 60 2 [] [0, 0, 0] μ = At cr2 d 60 4 [1] [0, 0, 0] μ := (At_eq cr2 d 60 2 _ _ _).trans rfl
set_option maxRecDepth 20000 in
theorem B60_3 (d : Nat) (μ : amM) : At cr2 d 60 3 [] [0, 0, 0] μ = At cr2 d 60 4 [0] [0, 0, 0] μ := (At_eq cr2 d 60 3 _ _ _).trans rfl
set_option maxRecDepth 20000 in
theorem B60_4 (d : Nat) (s0 : Int) (μ : amM) : At cr2 d 60 4 [s0] [0, 0, 0] μ = some (s0, μ) := (At_eq cr2 d 60 4 _ _ _).trans rfl
set_option maxRecDepth 20000 in
theorem B60_5 (d : Nat) (x1 x2 : Int) (μ : amM) : At cr2 d 60 5 [] [0, x1, x2] μ = (if x1 = 0 then At cr2 d 60 6 [] [0, 0, 0] μ else (if x2 = 0 then At cr2 d 60 6 [] [0, 0, 0] μ else At cr2 d 60 7 [1] [0, 0, 0] μ)) := (At_eq cr2 d 60 5 _ _ _).trans rfl
set_option maxRecDepth 20000 in
theorem B60_6 (d : Nat) (μ : amM) : At cr2 d 60 6 [] [0, 0, 0] μ = At cr2 d 60 7 [0] [0, 0, 0] μ := (At_eq cr2 d 60 6 _ _ _).trans rfl
set_option maxRecDepth 20000 in
theorem B60_7 (d : Nat) (s0 : Int) (μ : amM) : At cr2 d 60 7 [s0] [0, 0, 0] μ = some (s0, μ) := (At_eq cr2 d 60 7 _ _ _).trans rfl
set_option maxRecDepth 20000 in
theorem B60_8 (d : Nat) (x1 x2 : Int) (μ : amM) : At cr2 d 60 8 [] [0, x1, x2] μ = (if x1 < x2 then At cr2 d 60 10 [1] [0, 0, 0] μ else At cr2 d 60 9 [] [0, 0, 0] μ) := (At_eq cr2 d 60 8 _ _ _).trans rfl
set_option maxRecDepth 20000 in
theorem B60_9 (d : Nat) (μ : amM) : At cr2 d 60 9 [] [0, 0, 0] μ = At cr2 d 60 10 [0] [0, 0, 0] μ := (At_eq cr2 d 60 9 _ _ _).trans rfl
set_option maxRecDepth 20000 in
theorem B60_10 (d : Nat) (s0 : Int) (μ : amM) : At cr2 d 60 10 [s0] [0, 0, 0] μ = some (s0, μ) := (At_eq cr2 d 60 10 _ _ _).trans rfl
set_option maxRecDepth 20000 in
theorem B60_11 (d : Nat) (x1 x2 : Int) (μ : amM) : At cr2 d 60 11 [] [0, x1, x2] μ = (if x1 = x2 then At cr2 d 60 13 [1] [0, 0, 0] μ else At cr2 d 60 12 [] [0, 0, 0] μ) := (At_eq cr2 d 60 11 _ _ _).trans rfl
set_option maxRecDepth 20000 in
theorem B60_12 (d : Nat) (μ : amM) : At cr2 d 60 12 [] [0, 0, 0] μ = At cr2 d 60 13 [0] [0, 0, 0] μ := (At_eq cr2 d 60 12 _ _ _).trans rfl
set_option maxRecDepth 20000 in
theorem B60_13 (d : Nat) (s0 : Int) (μ : amM) : At cr2 d 60 13 [s0] [0, 0, 0] μ = some (s0, μ) := (At_eq cr2 d 60 13 _ _ _).trans rfl
set_option maxRecDepth 20000 in
theorem B60_14 (d : Nat) (x1 x2 : Int) (μ : amM) : At cr2 d 60 14 [] [0, x1, x2] μ = (if x2 < x1 then At cr2 d 60 16 [1] [0, 0, 0] μ else At cr2 d 60 15 [] [0, 0, 0] μ) := (At_eq cr2 d 60 14 _ _ _).trans rfl
set_option maxRecDepth 20000 in
theorem B60_15 (d : Nat) (μ : amM) : At cr2 d 60 15 [] [0, 0, 0] μ = At cr2 d 60 16 [0] [0, 0, 0] μ := (At_eq cr2 d 60 15 _ _ _).trans rfl
set_option maxRecDepth 20000 in
theorem B60_16 (d : Nat) (s0 : Int) (μ : amM) : At cr2 d 60 16 [s0] [0, 0, 0] μ = some (s0, μ) := (At_eq cr2 d 60 16 _ _ _).trans rfl
set_option maxRecDepth 20000 in
theorem B60_17 (d : Nat) (x1 x2 : Int) (μ : amM) : At cr2 d 60 17 [] [0, x1, x2] μ = some ((w32 (x1 + x2)), μ) := (At_eq cr2 d 60 17 _ _ _).trans rfl
set_option maxRecDepth 20000 in
theorem B60_18 (d : Nat) (x1 x2 : Int) (μ : amM) : At cr2 d 60 18 [] [0, x1, x2] μ = some ((w32 (x1 - x2)), μ) := (At_eq cr2 d 60 18 _ _ _).trans rfl
set_option maxRecDepth 20000 in
theorem B60_19 (d : Nat) (x1 x2 : Int) (μ : amM) : At cr2 d 60 19 [] [0, x1, x2] μ = some ((w32 (x1 * x2)), μ) := (At_eq cr2 d 60 19 _ _ _).trans rfl
set_option maxRecDepth 20000 in
theorem B60_20 (d : Nat) (x1 x2 : Int) (μ : amM) : At cr2 d 60 20 [] [0, x1, x2] μ = (if x2 = 0 then At cr2 d 60 22 [0] [0, 0, 0] μ else At cr2 d 60 21 [] [0, x1, x2] μ) := (At_eq cr2 d 60 20 _ _ _).trans rfl
set_option maxRecDepth 20000 in
theorem B60_21 (d : Nat) (x1 x2 : Int) (μ : amM) : At cr2 d 60 21 [] [0, x1, x2] μ = if x2 = 0 then none else At cr2 d 60 22 [(w32 (x1.tdiv x2))] [0, 0, 0] μ := (At_eq cr2 d 60 21 _ _ _).trans rfl
set_option maxRecDepth 20000 in
theorem B60_22 (d : Nat) (s0 : Int) (μ : amM) : At cr2 d 60 22 [s0] [0, 0, 0] μ = some (s0, μ) := (At_eq cr2 d 60 22 _ _ _).trans rfl
set_option maxRecDepth 20000 in
theorem B60_23 (d : Nat) (x1 x2 : Int) (μ : amM) : At cr2 d 60 23 [] [0, x1, x2] μ = (if x2 = 0 then At cr2 d 60 25 [0] [0, 0, 0] μ else At cr2 d 60 24 [] [0, x1, x2] μ) := (At_eq cr2 d 60 23 _ _ _).trans rfl
set_option maxRecDepth 20000 in
theorem B60_24 (d : Nat) (x1 x2 : Int) (μ : amM) : At cr2 d 60 24 [] [0, x1, x2] μ = if x2 = 0 then none else At cr2 d 60 25 [(x1.tmod x2)] [0, 0, 0] μ := (At_eq cr2 d 60 24 _ _ _).trans rfl
set_option maxRecDepth 20000 in
theorem B60_25 (d : Nat) (s0 : Int) (μ : amM) : At cr2 d 60 25 [s0] [0, 0, 0] μ = some (s0, μ) := (At_eq cr2 d 60 25 _ _ _).trans rfl
set_option maxRecDepth 20000 in
theorem B62_0 (cr : amC) (d : Nat) (x0 x1 x2 x3 : Int) (μ : amM) : At cr d 62 0 [] [x0, x1, x2, x3, 0, 0] μ = amPf cr μ 2 7 x0 x1 (fun μ1 => amPf cr μ1 2 8 x0 x2 (fun μ2 => amPf cr μ2 2 9 x0 x3 (fun μ3 => amGf cr μ3 2 7 x0 (fun v1 => amGf cr μ3 2 8 x0 (fun v2 => amPf cr μ3 2 10 x0 (w32 (v1 * v2)) (fun μ4 => At cr d 62 1 [] [x0, 0, 0, 0, 0, 0] μ4)))))) := (At_eq cr d 62 0 _ _ _).trans rfl
set_option maxRecDepth 20000 in
theorem B62_1 (cr : amC) (d : Nat) (x0 x4 : Int) (μ : amM) : At cr d 62 1 [] [x0, 0, 0, 0, x4, 0] μ = amGf cr μ 2 10 x0 (fun v1 => (if x4 < v1 then amGf cr μ 2 0 x0 (fun v2 => amPst 20 μ v2 x4 (-1) (fun μ1 => amGf cr μ1 2 4 x0 (fun v3 => amPst 20 μ1 v3 x4 0 (fun μ2 => At cr d 62 1 [] [x0, 0, 0, 0, (w32 (x4 + 1)), 0] μ2)))) else At cr d 62 2 [] [x0, 0, 0, 0, 0, 0] μ)) := (At_eq cr d 62 1 _ _ _).trans rfl
set_option maxRecDepth 20000 in
theorem B62_2 (cr : amC) (d : Nat) (x0 : Int) (μ : amM) : At cr d 62 2 [] [x0, 0, 0, 0, 0, 0] μ = At cr d 62 3 [] [x0, 0, 0, 0, 0, 0] μ := (At_eq cr d 62 2 _ _ _).trans rfl
set_option maxRecDepth 20000 in
theorem B62_3 (cr : amC) (d : Nat) (x0 x4 : Int) (μ : amM) : At cr d 62 3 [] [x0, 0, 0, 0, x4, 0] μ = amGf cr μ 2 7 x0 (fun v1 => (if x4 < v1 then At cr d 62 4 [] [x0, 0, 0, 0, x4, 0] μ else At cr d 62 6 [] [0, 0, 0, 0, 0, 0] μ)) := (At_eq cr d 62 3 _ _ _).trans rfl
set_option maxRecDepth 20000 in
theorem B62_4 (cr : amC) (d : Nat) (x0 x4 x5 : Int) (μ : amM) : At cr d 62 4 [] [x0, 0, 0, 0, x4, x5] μ = amGf cr μ 2 8 x0 (fun v1 => (if x5 < v1 then if amTg x0 = 2 then bnd (RD cr d 63 [x0, x4, x5] μ) (fun _ μ1 => At cr d 62 4 [] [x0, 0, 0, 0, x4, (w32 (x5 + 1))] μ1) else none else At cr d 62 5 [] [x0, 0, 0, 0, x4, 0] μ)) := (At_eq cr d 62 4 _ _ _).trans rfl
set_option maxRecDepth 20000 in
theorem B62_5 (cr : amC) (d : Nat) (x0 x4 : Int) (μ : amM) : At cr d 62 5 [] [x0, 0, 0, 0, x4, 0] μ = At cr d 62 3 [] [x0, 0, 0, 0, (w32 (x4 + 1)), 0] μ := (At_eq cr d 62 5 _ _ _).trans rfl
set_option maxRecDepth 20000 in
theorem B62_6 (cr : amC) (d : Nat) (μ : amM) : At cr d 62 6 [] [0, 0, 0, 0, 0, 0] μ = some (0, μ) := (At_eq cr d 62 6 _ _ _).trans rfl
set_option maxRecDepth 20000 in
theorem B63_0 (cr : amC) (d : Nat) (x0 x1 x2 : Int) (μ : amM) : At cr d 63 0 [] [x0, x1, x2, 0] μ = amGf cr μ 2 8 x0 (fun v1 => amGf cr μ 2 8 x0 (fun v2 => (if (w32 (x2 + 1)) < v2 then if amTg x0 = 2 then bnd (RD cr d 64 [x0, (w32 ((w32 (x1 * v1)) + x2)), (w32 ((w32 ((w32 (x1 * v1)) + x2)) + 1))] μ) (fun _ μ1 => At cr d 63 2 [] [x0, x1, x2, (w32 ((w32 (x1 * v1)) + x2))] μ1) else none else At cr d 63 1 [] [x0, x1, x2, (w32 ((w32 (x1 * v1)) + x2))] μ))) := (At_eq cr d 63 0 _ _ _).trans rfl
set_option maxRecDepth 20000 in
theorem B63_1 (cr : amC) (d : Nat) (x0 x1 x2 x3 : Int) (μ : amM) : At cr d 63 1 [] [x0, x1, x2, x3] μ = amGf cr μ 2 9 x0 (fun v1 => (if 0 < v1 then amGf cr μ 2 8 x0 (fun v2 => (if v2 < 3 then At cr d 63 2 [] [x0, x1, x2, x3] μ else if amTg x0 = 2 then bnd (RD cr d 64 [x0, x3, (w32 (x3 - x2))] μ) (fun _ μ1 => At cr d 63 2 [] [x0, x1, x2, x3] μ1) else none)) else At cr d 63 2 [] [x0, x1, x2, x3] μ)) := (At_eq cr d 63 1 _ _ _).trans rfl
set_option maxRecDepth 20000 in
theorem B63_2 (cr : amC) (d : Nat) (x0 x1 x2 x3 : Int) (μ : amM) : At cr d 63 2 [] [x0, x1, x2, x3] μ = amGf cr μ 2 7 x0 (fun v1 => (if (w32 (x1 + 1)) < v1 then amGf cr μ 2 8 x0 (fun v2 => if amTg x0 = 2 then bnd (RD cr d 64 [x0, x3, (w32 (x3 + v2))] μ) (fun _ μ1 => At cr d 63 4 [] [0, 0, 0, 0] μ1) else none) else At cr d 63 3 [] [x0, 0, x2, x3] μ)) := (At_eq cr d 63 2 _ _ _).trans rfl
set_option maxRecDepth 20000 in
theorem B63_3 (cr : amC) (d : Nat) (x0 x2 x3 : Int) (μ : amM) : At cr d 63 3 [] [x0, 0, x2, x3] μ = amGf cr μ 2 9 x0 (fun v1 => (if v1 = 2 then amGf cr μ 2 7 x0 (fun v2 => (if v2 < 3 then At cr d 63 4 [] [0, 0, 0, 0] μ else if amTg x0 = 2 then bnd (RD cr d 64 [x0, x3, x2] μ) (fun _ μ1 => At cr d 63 4 [] [0, 0, 0, 0] μ1) else none)) else At cr d 63 4 [] [0, 0, 0, 0] μ)) := (At_eq cr d 63 3 _ _ _).trans rfl
set_option maxRecDepth 20000 in
theorem B63_4 (cr : amC) (d : Nat) (μ : amM) : At cr d 63 4 [] [0, 0, 0, 0] μ = some (0, μ) := (At_eq cr d 63 4 _ _ _).trans rfl
set_option maxRecDepth 20000 in
theorem B64_0 (cr : amC) (d : Nat) (x0 x1 x2 : Int) (μ : amM) : At cr d 64 0 [] [x0, x1, x2] μ = if amTg x0 = 2 then bnd (RD cr d 65 [x0, x1, x2] μ) (fun _ μ1 => if amTg x0 = 2 then bnd (RD cr d 65 [x0, x2, x1] μ1) (fun _ μ2 => some (0, μ2)) else none) else none := (At_eq cr d 64 0 _ _ _).trans rfl
set_option maxRecDepth 20000 in
theorem B65_0 (cr : amC) (d : Nat) (x0 x1 x2 : Int) (μ : amM) : At cr d 65 0 [] [x0, x1, x2, 0, 0] μ = amGf cr μ 2 4 x0 (fun v1 => amAld μ v1 x1 (fun v2 => (if v2 < 4 then At cr d 65 1 [] [x0, x1, x2, (w32 (x1 * 4)), v2] μ else some (0, μ)))) := (At_eq cr d 65 0 _ _ _).trans rfl
set_option maxRecDepth 20000 in
theorem B65_1 (cr : amC) (d : Nat) (x0 x1 x2 x3 x4 : Int) (μ : amM) : At cr d 65 1 [] [x0, x1, x2, x3, x4] μ = (if 0 < x4 then amGf cr μ 2 3 x0 (fun v1 => amAld μ v1 (w32 ((w32 (x3 + x4)) - 1)) (fun v2 => (if x2 < v2 then amGf cr μ 2 3 x0 (fun v3 => amGf cr μ 2 3 x0 (fun v4 => amAld μ v4 (w32 ((w32 (x3 + x4)) - 1)) (fun v5 => amPst 20 μ v3 (w32 (x3 + x4)) v5 (fun μ1 => At cr d 65 1 [] [x0, x1, x2, x3, (w32 (x4 + (-1)))] μ1)))) else At cr d 65 2 [] [x0, x1, x2, x3, x4] μ))) else At cr d 65 2 [] [x0, x1, x2, x3, x4] μ) := (At_eq cr d 65 1 _ _ _).trans rfl
set_option maxRecDepth 20000 in
theorem B65_2 (cr : amC) (d : Nat) (x0 x1 x2 x3 x4 : Int) (μ : amM) : At cr d 65 2 [] [x0, x1, x2, x3, x4] μ = amGf cr μ 2 3 x0 (fun v1 => amPst 20 μ v1 (w32 (x3 + x4)) x2 (fun μ1 => amGf cr μ1 2 4 x0 (fun v2 => amAld μ1 v2 x1 (fun v3 => amPst 20 μ1 v2 x1 (w32 (v3 + 1)) (fun μ2 => some (0, μ2)))))) := (At_eq cr d 65 2 _ _ _).trans rfl
set_option maxRecDepth 20000 in
theorem B66_0 (d : Nat) (x0 x1 : Int) (μ : amM) : At cr2 d 66 0 [] [x0, x1] μ = amGf cr2 μ 2 0 x1 (fun v1 => amGf cr2 μ 2 0 x0 (fun v2 => amCpy μ v1 0 v2 0 64 (fun μ1 => amGf cr2 μ1 2 1 x1 (fun v3 => amGf cr2 μ1 2 1 x0 (fun v4 => amCpy μ1 v3 0 v4 0 64 (fun μ2 => amGf cr2 μ2 2 2 x1 (fun v5 => amGf cr2 μ2 2 2 x0 (fun v6 => amCpy μ2 v5 0 v6 0 64 (fun μ3 => amGf cr2 μ3 2 3 x1 (fun v7 => amGf cr2 μ3 2 3 x0 (fun v8 => amCpy μ3 v7 0 v8 0 256 (fun μ4 => amGf cr2 μ4 2 4 x1 (fun v9 => amGf cr2 μ4 2 4 x0 (fun v10 => amCpy μ4 v9 0 v10 0 64 (fun μ5 => amGf cr2 μ5 2 7 x1 (fun v11 => amPf cr2 μ5 2 7 x0 v11 (fun μ6 => amGf cr2 μ6 2 8 x1 (fun v12 => amPf cr2 μ6 2 8 x0 v12 (fun μ7 => amGf cr2 μ7 2 9 x1 (fun v13 => amPf cr2 μ7 2 9 x0 v13 (fun μ8 => amGf cr2 μ8 2 10 x1 (fun v14 => amPf cr2 μ8 2 10 x0 v14 (fun μ9 => amGf cr2 μ9 2 11 x1 (fun v15 => amPf cr2 μ9 2 11 x0 v15 (fun μ10 => amGf cr2 μ10 2 12 x1 (fun v16 => amPf cr2 μ10 2 12 x0 v16 (fun μ11 => some (0, μ11)))))))))))))))))))))))))))) := (At_eq cr2 d 66 0 _ _ _).trans rfl
set_option maxRecDepth 20000 in
theorem B67_0 (d : Nat) (x1 x2 x3 x4 : Int) (μ : amM) : At cr2 d 67 0 [] [2, x1, x2, x3, x4] μ = wr 3 64 μ x1 x2 (fun μ1 => wr 4 64 μ1 x1 x3 (fun μ2 => wr 5 64 μ2 x1 x4 (fun μ3 => some (0, μ3)))) := (At_eq cr2 d 67 0 _ _ _).trans rfl
set_option maxRecDepth 20000 in
theorem B68_0 (d : Nat) (μ : amM) : At cr2 d 68 0 [] [2, 0, 0] μ = At cr2 d 68 1 [] [2, 0, 0] μ := (At_eq cr2 d 68 0 _ _ _).trans rfl
set_option maxRecDepth 20000 in
theorem B68_1 (d : Nat) (x1 x2 : Int) (μ : amM) : At cr2 d 68 1 [] [2, x1, x2] μ = (if x2 < (μ 2 10) then rd 3 64 μ x2 (fun v1 => (if v1 = (-1) then At cr2 d 68 2 [] [2, x1, x2] μ else At cr2 d 68 2 [] [2, (w32 (x1 + 1)), x2] μ)) else At cr2 d 68 3 [] [0, x1, 0] μ) := (At_eq cr2 d 68 1 _ _ _).trans rfl
set_option maxRecDepth 20000 in
theorem B68_2 (d : Nat) (x1 x2 : Int) (μ : amM) : At cr2 d 68 2 [] [2, x1, x2] μ = At cr2 d 68 1 [] [2, x1, (w32 (x2 + 1))] μ := (At_eq cr2 d 68 2 _ _ _).trans rfl
set_option maxRecDepth 20000 in
theorem B68_3 (d : Nat) (x1 : Int) (μ : amM) : At cr2 d 68 3 [] [0, x1, 0] μ = some (x1, μ) := (At_eq cr2 d 68 3 _ _ _).trans rfl
set_option maxRecDepth 20000 in
theorem B69_0 (d : Nat) (x1 x2 : Int) (μ : amM) : At cr2 d 69 0 [] [2, x1, x2] μ = rd 3 64 μ x1 (fun v1 => (if v1 = (-1) then (if x2 = (-1) then At cr2 d 69 2 [1] [0, 0, 0] μ else At cr2 d 69 1 [] [0, 0, 0] μ) else At cr2 d 69 3 [] [2, x1, x2] μ)) := (At_eq cr2 d 69 0 _ _ _).trans rfl
set_option maxRecDepth 20000 in
theorem B69_1 (d : Nat) (μ : amM) : At cr2 d 69 1 [] [0, 0, 0] μ = At cr2 d 69 2 [0] [0, 0, 0] μ := (At_eq cr2 d 69 1 _ _ _).trans rfl
set_option maxRecDepth 20000 in
theorem B69_2 (d : Nat) (s0 : Int) (μ : amM) : At cr2 d 69 2 [s0] [0, 0, 0] μ = rb s0 μ := (At_eq cr2 d 69 2 _ _ _).trans rfl
set_option maxRecDepth 20000 in
theorem B69_3 (d : Nat) (x1 x2 : Int) (μ : amM) : At cr2 d 69 3 [] [2, x1, x2] μ = rd 5 64 μ x1 (fun v1 => bnd (RD cr2 d 10 [v1] μ) (fun v2 μ1 => (if v2 = 0 then rd 5 64 μ1 x1 (fun v3 => bnd (RD cr2 d 9 [v3] μ1) (fun v4 μ2 => (if v4 = x2 then At cr2 d 69 5 [1] [0, 0, 0] μ2 else At cr2 d 69 4 [] [0, 0, 0] μ2))) else At cr2 d 69 4 [] [0, 0, 0] μ1))) := (At_eq cr2 d 69 3 _ _ _).trans rfl
set_option maxRecDepth 20000 in
theorem B69_4 (d : Nat) (μ : amM) : At cr2 d 69 4 [] [0, 0, 0] μ = At cr2 d 69 5 [0] [0, 0, 0] μ := (At_eq cr2 d 69 4 _ _ _).trans rfl
set_option maxRecDepth 20000 in
theorem B69_5 (d : Nat) (s0 : Int) (μ : amM) : At cr2 d 69 5 [s0] [0, 0, 0] μ = rb s0 μ := (At_eq cr2 d 69 5 _ _ _).trans rfl
set_option maxRecDepth 20000 in
theorem B70_0 (d : Nat) (x1 : Int) (μ : amM) : At cr2 d 70 0 [] [2, x1] μ = rd 3 64 μ x1 (fun v1 => (if v1 = (-1) then At cr2 d 70 1 [] [0, 0] μ else rd 3 64 μ x1 (fun v2 => (if v2 = 5 then At cr2 d 70 1 [] [0, 0] μ else At cr2 d 70 2 [1] [0, 0] μ)))) := (At_eq cr2 d 70 0 _ _ _).trans rfl
set_option maxRecDepth 20000 in
theorem B70_1 (d : Nat) (μ : amM) : At cr2 d 70 1 [] [0, 0] μ = At cr2 d 70 2 [0] [0, 0] μ := (At_eq cr2 d 70 1 _ _ _).trans rfl
set_option maxRecDepth 20000 in
theorem B70_2 (d : Nat) (s0 : Int) (μ : amM) : At cr2 d 70 2 [s0] [0, 0] μ = rb s0 μ := (At_eq cr2 d 70 2 _ _ _).trans rfl
set_option maxRecDepth 20000 in
theorem B71_0 (d : Nat) (x1 x2 x3 : Int) (μ : amM) : At cr2 d 71 0 [] [2, x1, x2, x3] μ = rd 3 64 μ x1 (fun v1 => (if v1 = (-1) then At cr2 d 71 1 [] [0, 0, 0, 0] μ else rd 3 64 μ x1 (fun v2 => (if v2 = 5 then At cr2 d 71 1 [] [0, 0, 0, 0] μ else rd 5 64 μ x1 (fun v3 => bnd (RD cr2 d 7 [v3, x2] μ) (fun v4 μ1 => (if v4 = x3 then At cr2 d 71 1 [] [0, 0, 0, 0] μ1 else At cr2 d 71 2 [1] [0, 0, 0, 0] μ1))))))) := (At_eq cr2 d 71 0 _ _ _).trans rfl
set_option maxRecDepth 20000 in
theorem B71_1 (d : Nat) (μ : amM) : At cr2 d 71 1 [] [0, 0, 0, 0] μ = At cr2 d 71 2 [0] [0, 0, 0, 0] μ := (At_eq cr2 d 71 1 _ _ _).trans rfl
set_option maxRecDepth 20000 in
theorem B71_2 (d : Nat) (s0 : Int) (μ : amM) : At cr2 d 71 2 [s0] [0, 0, 0, 0] μ = rb s0 μ := (At_eq cr2 d 71 2 _ _ _).trans rfl
set_option maxRecDepth 20000 in
theorem B72_0 (d : Nat) (x1 x2 : Int) (μ : amM) : At cr2 d 72 0 [] [2, x1, x2, 0] μ = bnd (RD cr2 d 11 [x1, x2] μ) (fun v1 μ1 => (if v1 < (μ1 2 11) then At cr2 d 72 1 [] [0, 0, 0, 0] μ1 else (if (μ1 2 12) < v1 then At cr2 d 72 1 [] [0, 0, 0, 0] μ1 else At cr2 d 72 2 [1] [0, 0, 0, 0] μ1))) := (At_eq cr2 d 72 0 _ _ _).trans rfl
set_option maxRecDepth 20000 in
theorem B72_1 (d : Nat) (μ : amM) : At cr2 d 72 1 [] [0, 0, 0, 0] μ = At cr2 d 72 2 [0] [0, 0, 0, 0] μ := (At_eq cr2 d 72 1 _ _ _).trans rfl
set_option maxRecDepth 20000 in
theorem B72_2 (d : Nat) (s0 : Int) (μ : amM) : At cr2 d 72 2 [s0] [0, 0, 0, 0] μ = rb s0 μ := (At_eq cr2 d 72 2 _ _ _).trans rfl
set_option maxRecDepth 20000 in
theorem B73_0 (d : Nat) (x1 x2 : Int) (μ : amM) : At cr2 d 73 0 [] [2, x1, x2] μ = bnd (RD cr2 d 70 [2, x1] μ) (fun v1 μ1 => (if v1 = 0 then At cr2 d 73 1 [] [0, 0, 0] μ1 else bnd (RD cr2 d 70 [2, x2] μ1) (fun v2 μ2 => (if v2 = 0 then At cr2 d 73 1 [] [0, 0, 0] μ2 else rd 5 64 μ2 x1 (fun v3 => rd 5 64 μ2 x2 (fun v4 => bnd (RD cr2 d 72 [2, v3, v4] μ2) (fun v5 μ3 => (if v5 = 0 then At cr2 d 73 2 [1] [0, 0, 0] μ3 else At cr2 d 73 1 [] [0, 0, 0] μ3)))))))) := (At_eq cr2 d 73 0 _ _ _).trans rfl
set_option maxRecDepth 20000 in
theorem B73_1 (d : Nat) (μ : amM) : At cr2 d 73 1 [] [0, 0, 0] μ = At cr2 d 73 2 [0] [0, 0, 0] μ := (At_eq cr2 d 73 1 _ _ _).trans rfl
set_option maxRecDepth 20000 in
theorem B73_2 (d : Nat) (s0 : Int) (μ : amM) : At cr2 d 73 2 [s0] [0, 0, 0] μ = rb s0 μ := (At_eq cr2 d 73 2 _ _ _).trans rfl
set_option maxRecDepth 20000 in
theorem B74_0 (d : Nat) (x1 x2 : Int) (μ : amM) : At cr2 d 74 0 [] [2, x1, x2, 0, 0, 0] μ = At cr2 d 74 1 [] [2, x1, x2, (w32 (x1 * 4)), 0, 0] μ := (At_eq cr2 d 74 0 _ _ _).trans rfl
set_option maxRecDepth 20000 in
theorem B74_1 (d : Nat) (x1 x2 x3 x4 : Int) (μ : amM) : At cr2 d 74 1 [] [2, x1, x2, x3, x4, 0] μ = rd 7 64 μ x1 (fun v1 => (if x4 < v1 then rd 6 256 μ (w32 (x3 + x4)) (fun v2 => bnd (RD cr2 d 70 [2, v2] μ) (fun v3 μ1 => (if v3 = 0 then At cr2 d 74 2 [] [2, x1, x2, x3, x4, 0] μ1 else rd 5 64 μ1 v2 (fun v4 => bnd (RD cr2 d 72 [2, x2, v4] μ1) (fun v5 μ2 => (if v5 = 0 then some (0, μ2) else At cr2 d 74 2 [] [2, x1, x2, x3, x4, 0] μ2)))))) else At cr2 d 74 3 [] [0, 0, 0, 0, 0, 0] μ)) := (At_eq cr2 d 74 1 _ _ _).trans rfl
set_option maxRecDepth 20000 in
theorem B74_2 (d : Nat) (x1 x2 x3 x4 : Int) (μ : amM) : At cr2 d 74 2 [] [2, x1, x2, x3, x4, 0] μ = At cr2 d 74 1 [] [2, x1, x2, x3, (w32 (x4 + 1)), 0] μ := (At_eq cr2 d 74 2 _ _ _).trans rfl
set_option maxRecDepth 20000 in
theorem B74_3 (d : Nat) (μ : amM) : At cr2 d 74 3 [] [0, 0, 0, 0, 0, 0] μ = some (1, μ) := (At_eq cr2 d 74 3 _ _ _).trans rfl
set_option maxRecDepth 20000 in
theorem B75_0 (d : Nat) (x1 : Int) (μ : amM) : At cr2 d 75 0 [] [2, x1, 0, 0] μ = At cr2 d 75 1 [] [2, x1, 0, 0] μ := (At_eq cr2 d 75 0 _ _ _).trans rfl
set_option maxRecDepth 20000 in
theorem B75_1 (d : Nat) (x1 x2 x3 : Int) (μ : amM) : At cr2 d 75 1 [] [2, x1, x2, x3] μ = (if x3 < 81 then bnd (RD cr2 d 6 [x3] μ) (fun v1 μ1 => bnd (RD cr2 d 74 [2, x1, v1] μ1) (fun v2 μ2 => (if v2 = 0 then At cr2 d 75 2 [] [2, x1, x2, x3] μ2 else At cr2 d 75 2 [] [2, x1, (w32 (x2 + 1)), x3] μ2))) else At cr2 d 75 3 [] [0, 0, x2, 0] μ) := (At_eq cr2 d 75 1 _ _ _).trans rfl
set_option maxRecDepth 20000 in
theorem B75_2 (d : Nat) (x1 x2 x3 : Int) (μ : amM) : At cr2 d 75 2 [] [2, x1, x2, x3] μ = At cr2 d 75 1 [] [2, x1, x2, (w32 (x3 + 1))] μ := (At_eq cr2 d 75 2 _ _ _).trans rfl
set_option maxRecDepth 20000 in
theorem B75_3 (d : Nat) (x2 : Int) (μ : amM) : At cr2 d 75 3 [] [0, 0, x2, 0] μ = some (x2, μ) := (At_eq cr2 d 75 3 _ _ _).trans rfl
set_option maxRecDepth 20000 in
theorem B76_0 (d : Nat) (x1 x2 : Int) (μ : amM) : At cr2 d 76 0 [] [2, x1, x2, 0, 0] μ = At cr2 d 76 1 [] [2, x1, 0, x2, 0] μ := (At_eq cr2 d 76 0 _ _ _).trans rfl
set_option maxRecDepth 20000 in
theorem B76_1 (d : Nat) (x1 x3 x4 : Int) (μ : amM) : At cr2 d 76 1 [] [2, x1, 0, x3, x4] μ = (if x4 < 81 then bnd (RD cr2 d 6 [x4] μ) (fun v1 μ1 => bnd (RD cr2 d 74 [2, x1, v1] μ1) (fun v2 μ2 => (if v2 = 0 then At cr2 d 76 3 [] [2, x1, 0, x3, x4] μ2 else (if x3 = 0 then some (x4, μ2) else At cr2 d 76 2 [] [2, x1, 0, x3, x4] μ2)))) else At cr2 d 76 4 [] [0, 0, 0, 0, 0] μ) := (At_eq cr2 d 76 1 _ _ _).trans rfl
set_option maxRecDepth 20000 in
theorem B76_2 (d : Nat) (x1 x3 x4 : Int) (μ : amM) : At cr2 d 76 2 [] [2, x1, 0, x3, x4] μ = At cr2 d 76 3 [] [2, x1, 0, (w32 (x3 + (-1))), x4] μ := (At_eq cr2 d 76 2 _ _ _).trans rfl
set_option maxRecDepth 20000 in
theorem B76_3 (d : Nat) (x1 x3 x4 : Int) (μ : amM) : At cr2 d 76 3 [] [2, x1, 0, x3, x4] μ = At cr2 d 76 1 [] [2, x1, 0, x3, (w32 (x4 + 1))] μ := (At_eq cr2 d 76 3 _ _ _).trans rfl
set_option maxRecDepth 20000 in
theorem B76_4 (d : Nat) (μ : amM) : At cr2 d 76 4 [] [0, 0, 0, 0, 0] μ = some ((-1), μ) := (At_eq cr2 d 76 4 _ _ _).trans rfl
set_option maxRecDepth 20000 in
theorem B77_0 (d : Nat) (μ : amM) : At cr2 d 77 0 [] [2, 0, 0] μ = At cr2 d 77 1 [] [2, 0, 0] μ := (At_eq cr2 d 77 0 _ _ _).trans rfl
set_option maxRecDepth 20000 in
theorem B77_1 (d : Nat) (x1 x2 : Int) (μ : amM) : At cr2 d 77 1 [] [2, x1, x2] μ = (if x2 < 81 then bnd (RD cr2 d 6 [0] μ) (fun v1 μ1 => bnd (RD cr2 d 6 [x2] μ1) (fun v2 μ2 => bnd (RD cr2 d 72 [2, v1, v2] μ2) (fun v3 μ3 => (if v3 = 0 then At cr2 d 77 2 [] [2, x1, x2] μ3 else At cr2 d 77 2 [] [2, (w32 (x1 + 1)), x2] μ3)))) else At cr2 d 77 3 [] [0, x1, 0] μ) := (At_eq cr2 d 77 1 _ _ _).trans rfl
set_option maxRecDepth 20000 in
theorem B77_2 (d : Nat) (x1 x2 : Int) (μ : amM) : At cr2 d 77 2 [] [2, x1, x2] μ = At cr2 d 77 1 [] [2, x1, (w32 (x2 + 1))] μ := (At_eq cr2 d 77 2 _ _ _).trans rfl
set_option maxRecDepth 20000 in
theorem B77_3 (d : Nat) (x1 : Int) (μ : amM) : At cr2 d 77 3 [] [0, x1, 0] μ = some (x1, μ) := (At_eq cr2 d 77 3 _ _ _).trans rfl
set_option maxRecDepth 20000 in
theorem B78_0 (d : Nat) (x1 x2 : Int) (μ : amM) : At cr2 d 78 0 [] [2, x1, x2, 0, 0, 0] μ = bnd (RD cr2 d 6 [x1] μ) (fun v1 μ1 => At cr2 d 78 1 [] [2, 0, 0, v1, x2, 0] μ1) := (At_eq cr2 d 78 0 _ _ _).trans rfl
set_option maxRecDepth 20000 in
theorem B78_1 (d : Nat) (x3 x4 x5 : Int) (μ : amM) : At cr2 d 78 1 [] [2, 0, 0, x3, x4, x5] μ = (if x5 < 81 then bnd (RD cr2 d 6 [x5] μ) (fun v1 μ1 => bnd (RD cr2 d 72 [2, x3, v1] μ1) (fun v2 μ2 => (if v2 = 0 then At cr2 d 78 3 [] [2, 0, 0, x3, x4, x5] μ2 else (if x4 = 0 then some (x5, μ2) else At cr2 d 78 2 [] [2, 0, 0, x3, x4, x5] μ2)))) else At cr2 d 78 4 [] [0, 0, 0, 0, 0, 0] μ) := (At_eq cr2 d 78 1 _ _ _).trans rfl
set_option maxRecDepth 20000 in
theorem B78_2 (d : Nat) (x3 x4 x5 : Int) (μ : amM) : At cr2 d 78 2 [] [2, 0, 0, x3, x4, x5] μ = At cr2 d 78 3 [] [2, 0, 0, x3, (w32 (x4 + (-1))), x5] μ := (At_eq cr2 d 78 2 _ _ _).trans rfl
set_option maxRecDepth 20000 in
theorem B78_3 (d : Nat) (x3 x4 x5 : Int) (μ : amM) : At cr2 d 78 3 [] [2, 0, 0, x3, x4, x5] μ = At cr2 d 78 1 [] [2, 0, 0, x3, x4, (w32 (x5 + 1))] μ := (At_eq cr2 d 78 3 _ _ _).trans rfl
set_option maxRecDepth 20000 in
theorem B78_4 (d : Nat) (μ : amM) : At cr2 d 78 4 [] [0, 0, 0, 0, 0, 0] μ = some (0, μ) := (At_eq cr2 d 78 4 _ _ _).trans rfl
set_option maxRecDepth 20000 in
theorem B79_0 (d : Nat) (μ : amM) : At cr2 d 79 0 [] [2, 0, 0, 0, 0] μ = At cr2 d 79 1 [] [2, 0, 0, 0, 0] μ := (At_eq cr2 d 79 0 _ _ _).trans rfl
set_option maxRecDepth 20000 in
theorem B79_1 (d : Nat) (x1 x2 : Int) (μ : amM) : At cr2 d 79 1 [] [2, x1, x2, 0, 0] μ = (if x2 < (μ 2 10) then At cr2 d 79 2 [] [2, x1, x2, 0, 0] μ else At cr2 d 79 5 [] [0, x1, 0, 0, 0] μ) := (At_eq cr2 d 79 1 _ _ _).trans rfl
set_option maxRecDepth 20000 in
theorem B79_2 (d : Nat) (x1 x2 x3 : Int) (μ : amM) : At cr2 d 79 2 [] [2, x1, x2, x3, 0] μ = rd 7 64 μ x2 (fun v1 => (if x3 < v1 then rd 6 256 μ (w32 ((w32 (x2 * 4)) + x3)) (fun v2 => (if x2 < v2 then (if x1 < 128 then bnd (RD cr2 d 73 [2, x2, v2] μ) (fun v3 μ1 => (if v3 = 0 then At cr2 d 79 3 [] [2, x1, x2, x3, 0] μ1 else wr 8 128 μ1 x1 (w32 ((w32 (64 * x2)) + v2)) (fun μ2 => At cr2 d 79 3 [] [2, (w32 (x1 + 1)), x2, x3, 0] μ2))) else At cr2 d 79 3 [] [2, x1, x2, x3, 0] μ) else At cr2 d 79 3 [] [2, x1, x2, x3, 0] μ)) else At cr2 d 79 4 [] [2, x1, x2, 0, 0] μ)) := (At_eq cr2 d 79 2 _ _ _).trans rfl
set_option maxRecDepth 20000 in
theorem B79_3 (d : Nat) (x1 x2 x3 : Int) (μ : amM) : At cr2 d 79 3 [] [2, x1, x2, x3, 0] μ = At cr2 d 79 2 [] [2, x1, x2, (w32 (x3 + 1)), 0] μ := (At_eq cr2 d 79 3 _ _ _).trans rfl
set_option maxRecDepth 20000 in
theorem B79_4 (d : Nat) (x1 x2 : Int) (μ : amM) : At cr2 d 79 4 [] [2, x1, x2, 0, 0] μ = At cr2 d 79 1 [] [2, x1, (w32 (x2 + 1)), 0, 0] μ := (At_eq cr2 d 79 4 _ _ _).trans rfl
set_option maxRecDepth 20000 in
theorem B79_5 (d : Nat) (x1 : Int) (μ : amM) : At cr2 d 79 5 [] [0, x1, 0, 0, 0] μ = some (x1, μ) := (At_eq cr2 d 79 5 _ _ _).trans rfl
set_option maxRecDepth 20000 in
theorem B80_0 (d : Nat) (x1 : Int) (μ : amM) : At cr2 d 80 0 [] [2, x1, 0, 0] μ = At cr2 d 80 1 [] [2, x1, 0, 0] μ := (At_eq cr2 d 80 0 _ _ _).trans rfl
set_option maxRecDepth 20000 in
theorem B80_1 (d : Nat) (x1 x2 x3 : Int) (μ : amM) : At cr2 d 80 1 [] [2, x1, x2, x3] μ = rd 7 64 μ x1 (fun v1 => (if x3 < v1 then rd 6 256 μ (w32 ((w32 (x1 * 4)) + x3)) (fun v2 => bnd (RD cr2 d 73 [2, x1, v2] μ) (fun v3 μ1 => (if v3 = 0 then At cr2 d 80 2 [] [2, x1, x2, x3] μ1 else At cr2 d 80 2 [] [2, x1, (w32 (x2 + 1)), x3] μ1))) else At cr2 d 80 3 [] [0, 0, x2, 0] μ)) := (At_eq cr2 d 80 1 _ _ _).trans rfl
set_option maxRecDepth 20000 in
theorem B80_2 (d : Nat) (x1 x2 x3 : Int) (μ : amM) : At cr2 d 80 2 [] [2, x1, x2, x3] μ = At cr2 d 80 1 [] [2, x1, x2, (w32 (x3 + 1))] μ := (At_eq cr2 d 80 2 _ _ _).trans rfl
set_option maxRecDepth 20000 in
theorem B80_3 (d : Nat) (x2 : Int) (μ : amM) : At cr2 d 80 3 [] [0, 0, x2, 0] μ = some (x2, μ) := (At_eq cr2 d 80 3 _ _ _).trans rfl
set_option maxRecDepth 20000 in
theorem B81_0 (d : Nat) (x1 x2 x3 x4 : Int) (μ : amM) : At cr2 d 81 0 [] [2, x1, x2, x3, x4] μ = bnd (RD cr2 d 71 [2, x1, x2, x3] μ) (fun v1 μ1 => (if v1 = 0 then At cr2 d 81 2 [] [0, 0, 0, 0, 0] μ1 else (if x4 = 0 then At cr2 d 81 1 [] [2, x1, x2, x3, 0] μ1 else bnd (RD cr2 d 80 [2, x1] μ1) (fun v2 μ2 => (if v2 = x4 then At cr2 d 81 1 [] [2, x1, x2, x3, 0] μ2 else At cr2 d 81 2 [] [0, 0, 0, 0, 0] μ2))))) := (At_eq cr2 d 81 0 _ _ _).trans rfl
set_option maxRecDepth 20000 in
theorem B81_1 (d : Nat) (x1 x2 x3 : Int) (μ : amM) : At cr2 d 81 1 [] [2, x1, x2, x3, 0] μ = rd 5 64 μ x1 (fun v1 => bnd (RD cr2 d 8 [v1, x2, x3] μ) (fun v2 μ1 => bnd (RD cr2 d 74 [2, x1, v2] μ1) (fun v3 μ2 => (if v3 = 0 then At cr2 d 81 2 [] [0, 0, 0, 0, 0] μ2 else At cr2 d 81 3 [1] [0, 0, 0, 0, 0] μ2)))) := (At_eq cr2 d 81 1 _ _ _).trans rfl
set_option maxRecDepth 20000 in
theorem B81_2 (d : Nat) (μ : amM) : At cr2 d 81 2 [] [0, 0, 0, 0, 0] μ = At cr2 d 81 3 [0] [0, 0, 0, 0, 0] μ := (At_eq cr2 d 81 2 _ _ _).trans rfl
set_option maxRecDepth 20000 in
theorem B81_3 (d : Nat) (s0 : Int) (μ : amM) : At cr2 d 81 3 [s0] [0, 0, 0, 0, 0] μ = rb s0 μ := (At_eq cr2 d 81 3 _ _ _).trans rfl
set_option maxRecDepth 20000 in
theorem B82_0 (d : Nat) (x1 x2 : Int) (μ : amM) : At cr2 d 82 0 [] [2, x1, x2, 0, 0] μ = At cr2 d 82 1 [] [2, x1, x2, 0, 0] μ := (At_eq cr2 d 82 0 _ _ _).trans rfl
set_option maxRecDepth 20000 in
theorem B82_1 (d : Nat) (x1 x2 x3 x4 : Int) (μ : amM) : At cr2 d 82 1 [] [2, x1, x2, x3, x4] μ = (if x4 < (μ 2 10) then bnd (RD cr2 d 70 [2, x4] μ) (fun v1 μ1 => (if v1 = 0 then At cr2 d 82 2 [] [2, x1, x2, x3, x4] μ1 else rd 5 64 μ1 x4 (fun v2 => bnd (RD cr2 d 7 [v2, x1] μ1) (fun v3 μ2 => (if v3 = x2 then rd 5 64 μ2 x4 (fun v4 => bnd (RD cr2 d 8 [v4, x1, 3] μ2) (fun v5 μ3 => wr 5 64 μ3 x4 v5 (fun μ4 => At cr2 d 82 2 [] [2, x1, x2, (w32 (x3 + 1)), x4] μ4))) else At cr2 d 82 2 [] [2, x1, x2, x3, x4] μ2))))) else At cr2 d 82 3 [] [0, 0, 0, x3, 0] μ) := (At_eq cr2 d 82 1 _ _ _).trans rfl
set_option maxRecDepth 20000 in
theorem B82_2 (d : Nat) (x1 x2 x3 x4 : Int) (μ : amM) : At cr2 d 82 2 [] [2, x1, x2, x3, x4] μ = At cr2 d 82 1 [] [2, x1, x2, x3, (w32 (x4 + 1))] μ := (At_eq cr2 d 82 2 _ _ _).trans rfl
set_option maxRecDepth 20000 in
theorem B82_3 (d : Nat) (x3 : Int) (μ : amM) : At cr2 d 82 3 [] [0, 0, 0, x3, 0] μ = some (x3, μ) := (At_eq cr2 d 82 3 _ _ _).trans rfl
set_option maxRecDepth 20000 in
theorem B83_0 (d : Nat) (x1 x2 : Int) (μ : amM) : At cr2 d 83 0 [] [2, x1, x2, 0] μ = amCpy μ 5 0 9 0 64 (fun μ1 => bnd (RD cr2 d 82 [2, x1, x2] μ1) (fun v1 μ2 => bnd (RD cr2 d 79 [2] μ2) (fun v2 μ3 => amCpy μ3 9 0 5 0 64 (fun μ4 => some (v2, μ4))))) := (At_eq cr2 d 83 0 _ _ _).trans rfl
set_option maxRecDepth 20000 in
theorem B85_0 (d : Nat) (x0 x1 : Int) (μ : amM) : At cr2 d 85 0 [] [x0, x1, 0, 0] μ = At cr2 d 85 1 [] [0, x1, x0, 0] μ := (At_eq cr2 d 85 0 _ _ _).trans rfl
set_option maxRecDepth 20000 in
theorem B85_1 (d : Nat) (x1 x2 x3 : Int) (μ : amM) : At cr2 d 85 1 [] [0, x1, x2, x3] μ = (if x3 < 7 then (if x2 < 0 then At cr2 d 85 3 [] [0, 0, 0, 0] μ else (if x2 = x1 then some (1, μ) else At cr2 d 85 2 [] [0, x1, x2, x3] μ)) else At cr2 d 85 3 [] [0, 0, 0, 0] μ) := (At_eq cr2 d 85 1 _ _ _).trans rfl
set_option maxRecDepth 20000 in
theorem B85_2 (d : Nat) (x1 x2 x3 : Int) (μ : amM) : At cr2 d 85 2 [] [0, x1, x2, x3] μ = amAld μ 300 x2 (fun v1 => At cr2 d 85 1 [] [0, x1, v1, (w32 (x3 + 1))] μ) := (At_eq cr2 d 85 2 _ _ _).trans rfl
set_option maxRecDepth 20000 in
theorem B85_3 (d : Nat) (μ : amM) : At cr2 d 85 3 [] [0, 0, 0, 0] μ = some (0, μ) := (At_eq cr2 d 85 3 _ _ _).trans rfl
set_option maxRecDepth 20000 in
theorem B86_0 (d : Nat) (x2 x3 x4 : Int) (μ : amM) : At cr2 d 86 0 [] [59, 2, x2, x3, x4] μ = rd 3 64 μ x2 (fun v1 => wf 59 2 μ v1 (fun μ1 => wf 59 3 μ1 x2 (fun μ2 => rd 4 64 μ2 x2 (fun v2 => wf 59 4 μ2 v2 (fun μ3 => wf 59 1 μ3 0 (fun μ4 => bnd (RD cr2 d 89 [59, (μ4 59 2), x3, x4, 0] μ4) (fun v3 μ5 => some (v3, μ5)))))))) := (At_eq cr2 d 86 0 _ _ _).trans rfl
set_option maxRecDepth 20000 in
theorem B87_0 (d : Nat) (x0 x1 : Int) (μ : amM) : At cr2 d 87 0 [] [x0, x1, 0, 0] μ = At cr2 d 87 1 [] [0, x1, x0, 0] μ := (At_eq cr2 d 87 0 _ _ _).trans rfl
set_option maxRecDepth 20000 in
theorem B87_1 (d : Nat) (x1 x2 x3 : Int) (μ : amM) : At cr2 d 87 1 [] [0, x1, x2, x3] μ = (if x3 < 7 then (if 0 < x2 then amAld μ 301 (w32 ((w32 (4 * x2)) + x1)) (fun v1 => (if v1 = 0 then amAld μ 300 x2 (fun v2 => At cr2 d 87 1 [] [0, x1, v2, (w32 (x3 + 1))] μ) else At cr2 d 87 2 [] [0, 0, x2, 0] μ)) else At cr2 d 87 2 [] [0, 0, x2, 0] μ) else At cr2 d 87 2 [] [0, 0, x2, 0] μ) := (At_eq cr2 d 87 1 _ _ _).trans rfl
set_option maxRecDepth 20000 in
theorem B87_2 (d : Nat) (x2 : Int) (μ : amM) : At cr2 d 87 2 [] [0, 0, x2, 0] μ = some ((jmax x2 0), μ) := (At_eq cr2 d 87 2 _ _ _).trans rfl
set_option maxRecDepth 20000 in
theorem B88_0 (d : Nat) (x1 : Int) (μ : amM) : At cr2 d 88 0 [] [59, x1] μ = (if (μ 59 1) < 40 then wr 60 40 μ (μ 59 1) x1 (fun μ1 => wf 59 1 μ1 (w32 ((μ1 59 1) + 1)) (fun μ2 => At cr2 d 88 1 [] [0, 0] μ2)) else At cr2 d 88 1 [] [0, 0] μ) := (At_eq cr2 d 88 0 _ _ _).trans rfl
set_option maxRecDepth 20000 in
theorem B88_1 (d : Nat) (μ : amM) : At cr2 d 88 1 [] [0, 0] μ = some (0, μ) := (At_eq cr2 d 88 1 _ _ _).trans rfl
set_option maxRecDepth 20000 in
theorem B89_0 (d : Nat) (x1 x2 x3 x4 : Int) (μ : amM) : At cr2 d 89 0 [] [59, x1, x2, x3, x4, 0, 0, 0] μ = (if x4 < 40 then At cr2 d 89 1 [] [59, x1, x2, x3, x4, 0, 0, 0] μ else some (0, μ)) := (At_eq cr2 d 89 0 _ _ _).trans rfl
set_option maxRecDepth 20000 in
theorem B89_1 (d : Nat) (x1 x2 x3 x4 : Int) (μ : amM) : At cr2 d 89 1 [] [59, x1, x2, x3, x4, 0, 0, 0] μ = bnd (RD cr2 d 87 [x1, x2] μ) (fun v1 μ1 => amAld μ1 301 (w32 ((w32 (4 * v1)) + x2)) (fun v2 => bnd (RD cr2 d 88 [59, v2] μ1) (fun _ μ2 => (if v2 = 10 then At cr2 d 89 2 [] [59, 0, 0, x3, 0, 0, 0, 0] μ2 else if v2 = 11 then At cr2 d 89 3 [] [59, 0, 0, x3, 0, 0, 0, (w32 (x4 + 1))] μ2 else if v2 = 12 then At cr2 d 89 4 [] [59, 0, 0, x3, 0, 0, 0, 0] μ2 else if v2 = 13 then At cr2 d 89 5 [] [59, 0, 0, x3, 0, 0, 0, (w32 (x4 + 1))] μ2 else if v2 = 20 then At cr2 d 89 6 [] [59, 0, 0, x3, 0, v1, 0, (w32 (x4 + 1))] μ2 else if v2 = 30 then At cr2 d 89 7 [] [59, 0, 0, x3, 0, v1, 0, (w32 (x4 + 1))] μ2 else if v2 = 40 then At cr2 d 89 8 [] [59, 0, 0, x3, 0, v1, 0, (w32 (x4 + 1))] μ2 else if v2 = 50 then At cr2 d 89 9 [] [59, 0, 0, x3, 0, v1, 0, (w32 (x4 + 1))] μ2 else if v2 = 60 then At cr2 d 89 10 [] [59, 0, 0, x3, 0, v1, 0, (w32 (x4 + 1))] μ2 else if v2 = 70 then At cr2 d 89 11 [] [59, 0, 0, x3, 0, v1, 0, (w32 (x4 + 1))] μ2 else At cr2 d 89 12 [] [59, 0, 0, x3, 0, v1, 0, (w32 (x4 + 1))] μ2)))) := (At_eq cr2 d 89 1 _ _ _).trans rfl
set_option maxRecDepth 20000 in
theorem B89_2 (d : Nat) (x3 : Int) (μ : amM) : At cr2 d 89 2 [] [59, 0, 0, x3, 0, 0, 0, 0] μ = some ((w32 (x3 + (μ 59 3))), μ) := (At_eq cr2 d 89 2 _ _ _).trans rfl
set_option maxRecDepth 20000 in
theorem B89_3 (d : Nat) (x3 x7 : Int) (μ : amM) : At cr2 d 89 3 [] [59, 0, 0, x3, 0, 0, 0, x7] μ = bnd (RD cr2 d 89 [59, (μ 59 2), 0, x3, x7] μ) (fun v1 μ1 => some ((w32 (v1 * 2)), μ1)) := (At_eq cr2 d 89 3 _ _ _).trans rfl
set_option maxRecDepth 20000 in
theorem B89_4 (d : Nat) (x3 : Int) (μ : amM) : At cr2 d 89 4 [] [59, 0, 0, x3, 0, 0, 0, 0] μ = some ((w32 (x3 - (μ 59 4))), μ) := (At_eq cr2 d 89 4 _ _ _).trans rfl
set_option maxRecDepth 20000 in
theorem B89_5 (d : Nat) (x3 x7 : Int) (μ : amM) : At cr2 d 89 5 [] [59, 0, 0, x3, 0, 0, 0, x7] μ = bnd (RD cr2 d 89 [59, (μ 59 2), 1, x3, x7] μ) (fun v1 μ1 => bnd (RD cr2 d 89 [59, (μ1 59 2), 2, x3, x7] μ1) (fun v2 μ2 => some ((bXor v1 v2), μ2))) := (At_eq cr2 d 89 5 _ _ _).trans rfl
set_option maxRecDepth 20000 in
theorem B89_6 (d : Nat) (x3 x5 x7 : Int) (μ : amM) : At cr2 d 89 6 [] [59, 0, 0, x3, 0, x5, 0, x7] μ = amAld μ 300 x5 (fun v1 => bnd (RD cr2 d 89 [59, v1, 1, x3, x7] μ) (fun v2 μ1 => bnd (RD cr2 d 89 [59, (μ1 59 2), 2, 1, x7] μ1) (fun v3 μ2 => some ((w32 (v2 - v3)), μ2)))) := (At_eq cr2 d 89 6 _ _ _).trans rfl
set_option maxRecDepth 20000 in
theorem B89_7 (d : Nat) (x3 x5 x7 : Int) (μ : amM) : At cr2 d 89 7 [] [59, 0, 0, x3, 0, x5, 0, x7] μ = amAld μ 300 x5 (fun v1 => bnd (RD cr2 d 89 [59, v1, 0, x3, x7] μ) (fun v2 μ1 => some ((w32 (v2 * 3)), μ1))) := (At_eq cr2 d 89 7 _ _ _).trans rfl
set_option maxRecDepth 20000 in
theorem B89_8 (d : Nat) (x3 x5 x7 : Int) (μ : amM) : At cr2 d 89 8 [] [59, 0, 0, x3, 0, x5, 0, x7] μ = amAld μ 300 x5 (fun v1 => bnd (RD cr2 d 89 [59, v1, 2, x3, x7] μ) (fun v2 μ1 => some ((w32 (-v2)), μ1))) := (At_eq cr2 d 89 8 _ _ _).trans rfl
set_option maxRecDepth 20000 in
theorem B89_9 (d : Nat) (x3 x5 x7 : Int) (μ : amM) : At cr2 d 89 9 [] [59, 0, 0, x3, 0, x5, 0, x7] μ = amAld μ 300 x5 (fun v1 => bnd (RD cr2 d 89 [59, v1, 1, (w32 (x3 + 1)), x7] μ) (fun v2 μ1 => some (v2, μ1))) := (At_eq cr2 d 89 9 _ _ _).trans rfl
set_option maxRecDepth 20000 in
theorem B89_10 (d : Nat) (x3 x5 x7 : Int) (μ : amM) : At cr2 d 89 10 [] [59, 0, 0, x3, 0, x5, 0, x7] μ = amAld μ 300 x5 (fun v1 => bnd (RD cr2 d 89 [59, v1, 3, x3, x7] μ) (fun v2 μ1 => bnd (RD cr2 d 89 [59, (μ1 59 2), 0, 2, x7] μ1) (fun v3 μ2 => some ((w32 (v2 - v3)), μ2)))) := (At_eq cr2 d 89 10 _ _ _).trans rfl
set_option maxRecDepth 20000 in
theorem B89_11 (d : Nat) (x3 x5 x7 : Int) (μ : amM) : At cr2 d 89 11 [] [59, 0, 0, x3, 0, x5, 0, x7] μ = amAld μ 300 x5 (fun v1 => bnd (RD cr2 d 89 [59, v1, 2, x3, x7] μ) (fun v2 μ1 => some ((bXor v2 (μ1 59 3)), μ1))) := (At_eq cr2 d 89 11 _ _ _).trans rfl
set_option maxRecDepth 20000 in
theorem B89_12 (d : Nat) (x3 x5 x7 : Int) (μ : amM) : At cr2 d 89 12 [] [59, 0, 0, x3, 0, x5, 0, x7] μ = bnd (RD cr2 d 89 [59, (μ 59 2), 1, x3, x7] μ) (fun v1 μ1 => amAld μ1 300 x5 (fun v2 => bnd (RD cr2 d 89 [59, v2, 3, x3, x7] μ1) (fun v3 μ2 => some ((w32 (v1 - v3)), μ2)))) := (At_eq cr2 d 89 12 _ _ _).trans rfl
set_option maxRecDepth 20000 in
theorem B91_0 (d : Nat) (x2 : Int) (μ : amM) : At cr2 d 91 0 [] [55, 2, x2, 0] μ = At cr2 d 91 1 [] [55, 2, x2, 0] μ := (At_eq cr2 d 91 0 _ _ _).trans rfl
set_option maxRecDepth 20000 in
theorem B91_1 (d : Nat) (x2 x3 : Int) (μ : amM) : At cr2 d 91 1 [] [55, 2, x2, x3] μ = (if x3 < 81 then if 0 ≤ (μ 55 1) then (if x3 = 0 then At cr2 d 91 3 [1, x3, (μ 55 1)] [55, 2, x2, x3] μ else At cr2 d 91 2 [x3, (μ 55 1)] [55, 2, x2, x3] μ) else none else At cr2 d 91 4 [] [55, 2, x2, 0] μ) := (At_eq cr2 d 91 1 _ _ _).trans rfl
set_option maxRecDepth 20000 in
theorem B91_2 (d : Nat) (s0 s1 x2 x3 : Int) (μ : amM) : At cr2 d 91 2 [s0, s1] [55, 2, x2, x3] μ = At cr2 d 91 3 [0, s0, s1] [55, 2, x2, x3] μ := (At_eq cr2 d 91 2 _ _ _).trans rfl
set_option maxRecDepth 20000 in
theorem B91_3 (d : Nat) (s0 s1 s2 x2 x3 : Int) (μ : amM) : At cr2 d 91 3 [s0, s1, s2] [55, 2, x2, x3] μ = amPst 21 μ s2 s1 s0 (fun μ1 => At cr2 d 91 1 [] [55, 2, x2, (w32 (x3 + 1))] μ1) := (At_eq cr2 d 91 3 _ _ _).trans rfl
set_option maxRecDepth 20000 in
theorem B91_4 (d : Nat) (x2 : Int) (μ : amM) : At cr2 d 91 4 [] [55, 2, x2, 0] μ = At cr2 d 91 5 [] [55, 2, x2, 0] μ := (At_eq cr2 d 91 4 _ _ _).trans rfl
set_option maxRecDepth 20000 in
theorem B91_5 (d : Nat) (x2 x3 : Int) (μ : amM) : At cr2 d 91 5 [] [55, 2, x2, x3] μ = (if x3 < x2 then bnd (RD cr2 d 96 [55, 2, (-1), (-1)] μ) (fun _ μ1 => At cr2 d 91 5 [] [55, 2, x2, (w32 (x3 + 1))] μ1) else At cr2 d 91 6 [] [55, 0, 0, 0] μ) := (At_eq cr2 d 91 5 _ _ _).trans rfl
set_option maxRecDepth 20000 in
theorem B91_6 (d : Nat) (μ : amM) : At cr2 d 91 6 [] [55, 0, 0, 0] μ = if 0 ≤ (μ 55 1) then amPld 21 μ (μ 55 1) 0 (fun v1 => some ((w64 (81 * v1)), μ)) else none := (At_eq cr2 d 91 6 _ _ _).trans rfl
set_option maxRecDepth 20000 in
theorem B92_0 (d : Nat) (μ : amM) : At cr2 d 92 0 [] [55, 2, 0, 0, 0, 0, 0, 0, 0] μ = (if 0 < (μ 2 9) then (if (μ 2 8) < 3 then At cr2 d 92 1 [] [55, 2, 0, 0, 0, 0, 0, 0, 0] μ else At cr2 d 92 2 [1] [55, 2, 0, 0, 0, 0, 0, 0, 0] μ) else At cr2 d 92 1 [] [55, 2, 0, 0, 0, 0, 0, 0, 0] μ) := (At_eq cr2 d 92 0 _ _ _).trans rfl
set_option maxRecDepth 20000 in
theorem B92_1 (d : Nat) (μ : amM) : At cr2 d 92 1 [] [55, 2, 0, 0, 0, 0, 0, 0, 0] μ = At cr2 d 92 2 [0] [55, 2, 0, 0, 0, 0, 0, 0, 0] μ := (At_eq cr2 d 92 1 _ _ _).trans rfl
set_option maxRecDepth 20000 in
theorem B92_2 (d : Nat) (s0 : Int) (μ : amM) : At cr2 d 92 2 [s0] [55, 2, 0, 0, 0, 0, 0, 0, 0] μ = (if s0 = 0 then At cr2 d 92 3 [] [55, 2, s0, 0, 0, 0, 0, 0, 0] μ else bnd (RD cr2 d 93 [2] μ) (fun v1 μ1 => At cr2 d 92 4 [v1] [55, 2, s0, 0, 0, 0, 0, 0, 0] μ1)) := (At_eq cr2 d 92 2 _ _ _).trans rfl
set_option maxRecDepth 20000 in
theorem B92_3 (d : Nat) (x2 : Int) (μ : amM) : At cr2 d 92 3 [] [55, 2, x2, 0, 0, 0, 0, 0, 0] μ = At cr2 d 92 4 [0] [55, 2, x2, 0, 0, 0, 0, 0, 0] μ := (At_eq cr2 d 92 3 _ _ _).trans rfl
set_option maxRecDepth 20000 in
theorem B92_4 (d : Nat) (s0 x2 : Int) (μ : amM) : At cr2 d 92 4 [s0] [55, 2, x2, 0, 0, 0, 0, 0, 0] μ = (if s0 = (-1) then bnd (RD cr2 d 91 [55, 2, (μ 2 10)] μ) (fun v1 μ1 => some (v1, μ1)) else At cr2 d 92 5 [] [55, 2, x2, s0, 0, 0, 0, 0, 0] μ) := (At_eq cr2 d 92 4 _ _ _).trans rfl
set_option maxRecDepth 20000 in
theorem B92_5 (d : Nat) (x2 x3 : Int) (μ : amM) : At cr2 d 92 5 [] [55, 2, x2, x3, 0, 0, 0, 0, 0] μ = At cr2 d 92 6 [] [55, 2, x2, 0, x3, 0, 0, 0, 0] μ := (At_eq cr2 d 92 5 _ _ _).trans rfl
set_option maxRecDepth 20000 in
theorem B92_6 (d : Nat) (x2 x4 x5 : Int) (μ : amM) : At cr2 d 92 6 [] [55, 2, x2, 0, x4, x5, 0, 0, 0] μ = bnd (RD cr2 d 95 [2, x4] μ) (fun v1 μ1 => (if x5 < v1 then if 0 ≤ (μ1 55 1) then amPst 21 μ1 (μ1 55 1) x5 1 (fun μ2 => At cr2 d 92 6 [] [55, 2, x2, 0, x4, (w32 (x5 + 1)), 0, 0, 0] μ2) else none else At cr2 d 92 7 [] [55, 2, x2, 0, x4, 0, 0, 0, 0] μ1)) := (At_eq cr2 d 92 6 _ _ _).trans rfl
set_option maxRecDepth 20000 in
theorem B92_7 (d : Nat) (x2 x4 : Int) (μ : amM) : At cr2 d 92 7 [] [55, 2, x2, 0, x4, 0, 0, 0, 0] μ = (if x2 = 0 then At cr2 d 92 8 [] [55, 2, 0, 0, x4, 0, 0, 0, 0] μ else At cr2 d 92 9 [(μ 2 10)] [55, 2, 0, 0, x4, 0, 0, 0, 0] μ) := (At_eq cr2 d 92 7 _ _ _).trans rfl
set_option maxRecDepth 20000 in
theorem B92_8 (d : Nat) (x4 : Int) (μ : amM) : At cr2 d 92 8 [] [55, 2, 0, 0, x4, 0, 0, 0, 0] μ = At cr2 d 92 9 [(w32 ((μ 2 10) - 1))] [55, 2, 0, 0, x4, 0, 0, 0, 0] μ := (At_eq cr2 d 92 8 _ _ _).trans rfl
set_option maxRecDepth 20000 in
theorem B92_9 (d : Nat) (s0 x4 : Int) (μ : amM) : At cr2 d 92 9 [s0] [55, 2, 0, 0, x4, 0, 0, 0, 0] μ = At cr2 d 92 10 [] [55, 2, 0, 0, x4, s0, 0, 0, 0] μ := (At_eq cr2 d 92 9 _ _ _).trans rfl
set_option maxRecDepth 20000 in
theorem B92_10 (d : Nat) (x4 x5 x6 : Int) (μ : amM) : At cr2 d 92 10 [] [55, 2, 0, 0, x4, x5, x6, 0, 0] μ = (if x6 < x5 then (if (w32 (x4 + 1)) < (μ 2 10) then At cr2 d 92 12 [(w32 (x4 + 1))] [55, 2, 0, 0, x4, x5, x6, 0, 0] μ else At cr2 d 92 11 [] [55, 2, 0, 0, x4, x5, x6, 0, 0] μ) else At cr2 d 92 13 [] [55, 2, 0, 0, x4, 0, 0, 0, 0] μ) := (At_eq cr2 d 92 10 _ _ _).trans rfl
set_option maxRecDepth 20000 in
theorem B92_11 (d : Nat) (x4 x5 x6 : Int) (μ : amM) : At cr2 d 92 11 [] [55, 2, 0, 0, x4, x5, x6, 0, 0] μ = At cr2 d 92 12 [0] [55, 2, 0, 0, x4, x5, x6, 0, 0] μ := (At_eq cr2 d 92 11 _ _ _).trans rfl
set_option maxRecDepth 20000 in
theorem B92_12 (d : Nat) (s0 x4 x5 x6 : Int) (μ : amM) : At cr2 d 92 12 [s0] [55, 2, 0, 0, x4, x5, x6, 0, 0] μ = bnd (RD cr2 d 96 [55, 2, x4, s0] μ) (fun _ μ1 => At cr2 d 92 10 [] [55, 2, 0, 0, s0, x5, (w32 (x6 + 1)), 0, 0] μ1) := (At_eq cr2 d 92 12 _ _ _).trans rfl
set_option maxRecDepth 20000 in
theorem B92_13 (d : Nat) (x4 : Int) (μ : amM) : At cr2 d 92 13 [] [55, 2, 0, 0, x4, 0, 0, 0, 0] μ = At cr2 d 92 14 [] [55, 2, 0, 0, x4, 0, 0, 0, 0] μ := (At_eq cr2 d 92 13 _ _ _).trans rfl
set_option maxRecDepth 20000 in
theorem B92_14 (d : Nat) (x4 x6 x8 : Int) (μ : amM) : At cr2 d 92 14 [] [55, 2, 0, 0, x4, 0, x6, 0, x8] μ = bnd (RD cr2 d 95 [2, x4] μ) (fun v1 μ1 => (if x8 < v1 then if 0 ≤ (μ1 55 1) then amPld 21 μ1 (μ1 55 1) x8 (fun v2 => At cr2 d 92 14 [] [55, 2, 0, 0, x4, 0, (w64 (x6 + v2)), 0, (w32 (x8 + 1))] μ1) else none else At cr2 d 92 15 [] [0, 0, 0, 0, 0, 0, x6, 0, 0] μ1)) := (At_eq cr2 d 92 14 _ _ _).trans rfl
set_option maxRecDepth 20000 in
theorem B92_15 (d : Nat) (x6 : Int) (μ : amM) : At cr2 d 92 15 [] [0, 0, 0, 0, 0, 0, x6, 0, 0] μ = some (x6, μ) := (At_eq cr2 d 92 15 _ _ _).trans rfl
set_option maxRecDepth 20000 in
theorem B93_0 (d : Nat) (μ : amM) : At cr2 d 93 0 [] [2, 0] μ = At cr2 d 93 1 [] [2, 0] μ := (At_eq cr2 d 93 0 _ _ _).trans rfl
set_option maxRecDepth 20000 in
theorem B93_1 (d : Nat) (x1 : Int) (μ : amM) : At cr2 d 93 1 [] [2, x1] μ = (if x1 < (μ 2 10) then rd 3 64 μ x1 (fun v1 => (if v1 = (-1) then At cr2 d 93 2 [] [2, x1] μ else some (x1, μ))) else At cr2 d 93 3 [] [0, 0] μ) := (At_eq cr2 d 93 1 _ _ _).trans rfl
set_option maxRecDepth 20000 in
theorem B93_2 (d : Nat) (x1 : Int) (μ : amM) : At cr2 d 93 2 [] [2, x1] μ = At cr2 d 93 1 [] [2, (w32 (x1 + 1))] μ := (At_eq cr2 d 93 2 _ _ _).trans rfl
set_option maxRecDepth 20000 in
theorem B93_3 (d : Nat) (μ : amM) : At cr2 d 93 3 [] [0, 0] μ = some ((-1), μ) := (At_eq cr2 d 93 3 _ _ _).trans rfl
set_option maxRecDepth 20000 in
theorem B94_0 (d : Nat) (x1 : Int) (μ : amM) : At cr2 d 94 0 [] [2, x1] μ = (if x1 = (-1) then At cr2 d 94 1 [] [0, 0] μ else rd 3 64 μ x1 (fun v1 => (if v1 = (-1) then At cr2 d 94 1 [] [0, 0] μ else At cr2 d 94 2 [] [0, 0] μ))) := (At_eq cr2 d 94 0 _ _ _).trans rfl
set_option maxRecDepth 20000 in
theorem B94_1 (d : Nat) (μ : amM) : At cr2 d 94 1 [] [0, 0] μ = At cr2 d 94 3 [1] [0, 0] μ := (At_eq cr2 d 94 1 _ _ _).trans rfl
set_option maxRecDepth 20000 in
theorem B94_2 (d : Nat) (μ : amM) : At cr2 d 94 2 [] [0, 0] μ = At cr2 d 94 3 [0] [0, 0] μ := (At_eq cr2 d 94 2 _ _ _).trans rfl
set_option maxRecDepth 20000 in
theorem B94_3 (d : Nat) (s0 : Int) (μ : amM) : At cr2 d 94 3 [s0] [0, 0] μ = rb s0 μ := (At_eq cr2 d 94 3 _ _ _).trans rfl
set_option maxRecDepth 20000 in
theorem B95_0 (d : Nat) (x1 : Int) (μ : amM) : At cr2 d 95 0 [] [2, x1] μ = bnd (RD cr2 d 94 [2, x1] μ) (fun v1 μ1 => (if v1 = 0 then At cr2 d 95 1 [] [0, 0] μ1 else At cr2 d 95 2 [81] [0, 0] μ1)) := (At_eq cr2 d 95 0 _ _ _).trans rfl
set_option maxRecDepth 20000 in
theorem B95_1 (d : Nat) (μ : amM) : At cr2 d 95 1 [] [0, 0] μ = At cr2 d 95 2 [1] [0, 0] μ := (At_eq cr2 d 95 1 _ _ _).trans rfl
set_option maxRecDepth 20000 in
theorem B95_2 (d : Nat) (s0 : Int) (μ : amM) : At cr2 d 95 2 [s0] [0, 0] μ = some (s0, μ) := (At_eq cr2 d 95 2 _ _ _).trans rfl
set_option maxRecDepth 20000 in
theorem B96_0 (d : Nat) (x2 x3 : Int) (μ : amM) : At cr2 d 96 0 [] [55, 2, x2, x3, 0, 0] μ = bnd (RD cr2 d 94 [2, x2] μ) (fun v1 μ1 => (if v1 = 0 then bnd (RD cr2 d 70 [2, x2] μ1) (fun v2 μ2 => (if v2 = 0 then At cr2 d 96 3 [] [55, 2, x2, x3, 0, 0] μ2 else At cr2 d 96 1 [] [55, 2, x2, x3, 0, 0] μ2)) else At cr2 d 96 1 [] [55, 2, x2, x3, 0, 0] μ1)) := (At_eq cr2 d 96 0 _ _ _).trans rfl
set_option maxRecDepth 20000 in
theorem B96_1 (d : Nat) (x2 x3 : Int) (μ : amM) : At cr2 d 96 1 [] [55, 2, x2, x3, 0, 0] μ = bnd (RD cr2 d 94 [2, x3] μ) (fun v1 μ1 => (if v1 = 0 then bnd (RD cr2 d 70 [2, x3] μ1) (fun v2 μ2 => (if v2 = 0 then At cr2 d 96 3 [] [55, 2, x2, x3, 0, 0] μ2 else At cr2 d 96 2 [] [55, 2, x2, x3, 0, 0] μ2)) else At cr2 d 96 2 [] [55, 2, x2, x3, 0, 0] μ1)) := (At_eq cr2 d 96 1 _ _ _).trans rfl
set_option maxRecDepth 20000 in
theorem B96_2 (d : Nat) (x2 x3 : Int) (μ : amM) : At cr2 d 96 2 [] [55, 2, x2, x3, 0, 0] μ = At cr2 d 96 4 [1] [55, 2, x2, x3, 0, 0] μ := (At_eq cr2 d 96 2 _ _ _).trans rfl
set_option maxRecDepth 20000 in
theorem B96_3 (d : Nat) (x2 x3 : Int) (μ : amM) : At cr2 d 96 3 [] [55, 2, x2, x3, 0, 0] μ = At cr2 d 96 4 [0] [55, 2, x2, x3, 0, 0] μ := (At_eq cr2 d 96 3 _ _ _).trans rfl
set_option maxRecDepth 20000 in
theorem B96_4 (d : Nat) (s0 x2 x3 : Int) (μ : amM) : At cr2 d 96 4 [s0] [55, 2, x2, x3, 0, 0] μ = At cr2 d 96 5 [] [55, 2, x2, x3, s0, 0] μ := (At_eq cr2 d 96 4 _ _ _).trans rfl
set_option maxRecDepth 20000 in
theorem B96_5 (d : Nat) (x2 x3 x4 x5 : Int) (μ : amM) : At cr2 d 96 5 [] [55, 2, x2, x3, x4, x5] μ = bnd (RD cr2 d 95 [2, x3] μ) (fun v1 μ1 => (if x5 < v1 then if 0 ≤ (μ1 55 2) then bnd (RD cr2 d 94 [2, x3] μ1) (fun v2 μ2 => (if v2 = 0 then At cr2 d 96 6 [x2, 2, 55, x5, (μ1 55 2)] [55, 2, x2, x3, x4, x5] μ2 else rd 56 81 μ2 x5 (fun v3 => At cr2 d 96 7 [v3, x2, 2, 55, x5, (μ1 55 2)] [55, 2, x2, x3, x4, x5] μ2))) else none else At cr2 d 96 8 [] [55, 0, 0, 0, 0, 0] μ1)) := (At_eq cr2 d 96 5 _ _ _).trans rfl
set_option maxRecDepth 20000 in
theorem B96_6 (d : Nat) (s0 s3 s4 x2 x3 x4 x5 : Int) (μ : amM) : At cr2 d 96 6 [s0, 2, 55, s3, s4] [55, 2, x2, x3, x4, x5] μ = rd 5 64 μ x3 (fun v1 => At cr2 d 96 7 [v1, s0, 2, 55, s3, s4] [55, 2, x2, x3, x4, x5] μ) := (At_eq cr2 d 96 6 _ _ _).trans rfl
set_option maxRecDepth 20000 in
theorem B96_7 (d : Nat) (s0 s1 s4 s5 x2 x3 x4 x5 : Int) (μ : amM) : At cr2 d 96 7 [s0, s1, 2, 55, s4, s5] [55, 2, x2, x3, x4, x5] μ = bnd (RD cr2 d 97 [55, 2, s1, s0, x4] μ) (fun v1 μ1 => amPst 21 μ1 s5 s4 v1 (fun μ2 => At cr2 d 96 5 [] [55, 2, x2, x3, x4, (w32 (x5 + 1))] μ2)) := (At_eq cr2 d 96 7 _ _ _).trans rfl
set_option maxRecDepth 20000 in
theorem B96_8 (d : Nat) (μ : amM) : At cr2 d 96 8 [] [55, 0, 0, 0, 0, 0] μ = if 0 ≤ (μ 55 1) then if 0 ≤ (μ 55 2) then wf 55 1 μ (μ 55 2) (fun μ1 => wf 55 2 μ1 (μ 55 1) (fun μ2 => some (0, μ2))) else none else none := (At_eq cr2 d 96 8 _ _ _).trans rfl
set_option maxRecDepth 20000 in
theorem B97_0 (d : Nat) (x2 x3 x4 : Int) (μ : amM) : At cr2 d 97 0 [] [55, 2, x2, x3, x4, 0, 0, 0, 0, 0] μ = bnd (RD cr2 d 94 [2, x2] μ) (fun v1 μ1 => (if v1 = 0 then At cr2 d 97 1 [] [55, 2, x2, x3, x4, v1, 0, 0, 0, 0] μ1 else At cr2 d 97 2 [81] [55, 2, x2, x3, x4, v1, 0, 0, 0, 0] μ1)) := (At_eq cr2 d 97 0 _ _ _).trans rfl
set_option maxRecDepth 20000 in
theorem B97_1 (d : Nat) (x2 x3 x4 x5 : Int) (μ : amM) : At cr2 d 97 1 [] [55, 2, x2, x3, x4, x5, 0, 0, 0, 0] μ = At cr2 d 97 2 [1] [55, 2, x2, x3, x4, x5, 0, 0, 0, 0] μ := (At_eq cr2 d 97 1 _ _ _).trans rfl
set_option maxRecDepth 20000 in
theorem B97_2 (d : Nat) (s0 x2 x3 x4 x5 : Int) (μ : amM) : At cr2 d 97 2 [s0] [55, 2, x2, x3, x4, x5, 0, 0, 0, 0] μ = At cr2 d 97 3 [] [55, 2, x2, x3, x4, x5, s0, 0, 0, 0] μ := (At_eq cr2 d 97 2 _ _ _).trans rfl
set_option maxRecDepth 20000 in
theorem B97_3 (d : Nat) (x2 x3 x4 x5 x6 x7 x9 : Int) (μ : amM) : At cr2 d 97 3 [] [55, 2, x2, x3, x4, x5, x6, x7, 0, x9] μ = (if x9 < x6 then (if x4 = 0 then At cr2 d 97 6 [] [55, 2, x2, x3, x4, x5, x6, x7, 0, x9] μ else (if x5 = 0 then At cr2 d 97 4 [2] [55, 2, x2, x3, x4, x5, x6, x7, 0, x9] μ else rd 56 81 μ x9 (fun v1 => At cr2 d 97 5 [v1, 2] [55, 2, x2, x3, x4, x5, x6, x7, 0, x9] μ))) else At cr2 d 97 8 [] [0, 0, 0, 0, 0, 0, 0, x7, 0, 0] μ) := (At_eq cr2 d 97 3 _ _ _).trans rfl
set_option maxRecDepth 20000 in
theorem B97_4 (d : Nat) (x2 x3 x4 x5 x6 x7 x9 : Int) (μ : amM) : At cr2 d 97 4 [2] [55, 2, x2, x3, x4, x5, x6, x7, 0, x9] μ = rd 5 64 μ x2 (fun v1 => At cr2 d 97 5 [v1, 2] [55, 2, x2, x3, x4, x5, x6, x7, 0, x9] μ) := (At_eq cr2 d 97 4 _ _ _).trans rfl
set_option maxRecDepth 20000 in
theorem B97_5 (d : Nat) (s0 x2 x3 x4 x5 x6 x7 x9 : Int) (μ : amM) : At cr2 d 97 5 [s0, 2] [55, 2, x2, x3, x4, x5, x6, x7, 0, x9] μ = bnd (RD cr2 d 72 [2, s0, x3] μ) (fun v1 μ1 => (if v1 = 0 then At cr2 d 97 7 [] [55, 2, x2, x3, x4, x5, x6, x7, 0, x9] μ1 else At cr2 d 97 6 [] [55, 2, x2, x3, x4, x5, x6, x7, 0, x9] μ1)) := (At_eq cr2 d 97 5 _ _ _).trans rfl
set_option maxRecDepth 20000 in
theorem B97_6 (d : Nat) (x2 x3 x4 x5 x6 x7 x9 : Int) (μ : amM) : At cr2 d 97 6 [] [55, 2, x2, x3, x4, x5, x6, x7, 0, x9] μ = if 0 ≤ (μ 55 1) then amPld 21 μ (μ 55 1) x9 (fun v1 => At cr2 d 97 7 [] [55, 2, x2, x3, x4, x5, x6, (w64 (x7 + v1)), 0, x9] μ) else none := (At_eq cr2 d 97 6 _ _ _).trans rfl
set_option maxRecDepth 20000 in
theorem B97_7 (d : Nat) (x2 x3 x4 x5 x6 x7 x9 : Int) (μ : amM) : At cr2 d 97 7 [] [55, 2, x2, x3, x4, x5, x6, x7, 0, x9] μ = At cr2 d 97 3 [] [55, 2, x2, x3, x4, x5, x6, x7, 0, (w32 (x9 + 1))] μ := (At_eq cr2 d 97 7 _ _ _).trans rfl
set_option maxRecDepth 20000 in
theorem B97_8 (d : Nat) (x7 : Int) (μ : amM) : At cr2 d 97 8 [] [0, 0, 0, 0, 0, 0, 0, x7, 0, 0] μ = some (x7, μ) := (At_eq cr2 d 97 8 _ _ _).trans rfl
set_option maxRecDepth 20000 in
theorem B99_0 (d : Nat) (x1 x2 x3 : Int) (μ : amM) : At cr2 d 99 0 [] [0, x1, x2, x3] μ = bnd (RD cr2 d 142 [x1, 1, 8] μ) (fun v1 μ1 => (if v1 = 0 then At cr2 d 99 1 [] [0, 0, 0, 0] μ1 else bnd (RD cr2 d 142 [x2, 1, 8] μ1) (fun v2 μ2 => (if v2 = 0 then At cr2 d 99 1 [] [0, 0, 0, 0] μ2 else bnd (RD cr2 d 142 [x3, 0, 2] μ2) (fun v3 μ3 => (if v3 = 0 then At cr2 d 99 1 [] [0, 0, 0, 0] μ3 else At cr2 d 99 2 [] [0, x1, x2, x3] μ3)))))) := (At_eq cr2 d 99 0 _ _ _).trans rfl
set_option maxRecDepth 20000 in
theorem B99_1 (d : Nat) (μ : amM) : At cr2 d 99 1 [] [0, 0, 0, 0] μ = bnd (RD cr2 d 141 [0, 1] μ) (fun v1 μ1 => some (v1, μ1)) := (At_eq cr2 d 99 1 _ _ _).trans rfl
set_option maxRecDepth 20000 in
theorem B99_2 (d : Nat) (x1 x2 x3 : Int) (μ : amM) : At cr2 d 99 2 [] [0, x1, x2, x3] μ = bnd (RD cr2 d 62 [2, x1, x2, x3] μ) (fun _ μ1 => some ((μ1 2 10), μ1)) := (At_eq cr2 d 99 2 _ _ _).trans rfl
set_option maxRecDepth 20000 in
theorem B100_0 (d : Nat) (x1 x2 : Int) (μ : amM) : At cr2 d 100 0 [] [0, x1, x2, 0, 0] μ = bnd (RD cr2 d 142 [x1, 0, 1] μ) (fun v1 μ1 => (if v1 = 0 then At cr2 d 100 1 [] [0, 0, 0, 0, 0] μ1 else bnd (RD cr2 d 142 [x2, 0, 4] μ1) (fun v2 μ2 => (if v2 = 0 then At cr2 d 100 1 [] [0, 0, 0, 0, 0] μ2 else At cr2 d 100 2 [] [0, x1, x2, 0, 0] μ2)))) := (At_eq cr2 d 100 0 _ _ _).trans rfl
set_option maxRecDepth 20000 in
theorem B100_1 (d : Nat) (μ : amM) : At cr2 d 100 1 [] [0, 0, 0, 0, 0] μ = bnd (RD cr2 d 141 [0, 1] μ) (fun v1 μ1 => some (v1, μ1)) := (At_eq cr2 d 100 1 _ _ _).trans rfl
set_option maxRecDepth 20000 in
theorem B100_2 (d : Nat) (x1 x2 : Int) (μ : amM) : At cr2 d 100 2 [] [0, x1, x2, 0, 0] μ = (if x1 = 0 then (if (μ 2 12) < x2 then At cr2 d 100 4 [] [0, 0, 0, 0, 0] μ else At cr2 d 100 5 [] [0, x1, x2, 2, 0] μ) else At cr2 d 100 3 [] [0, x1, x2, 2, 0] μ) := (At_eq cr2 d 100 2 _ _ _).trans rfl
set_option maxRecDepth 20000 in
theorem B100_3 (d : Nat) (x1 x2 : Int) (μ : amM) : At cr2 d 100 3 [] [0, x1, x2, 2, 0] μ = (if x2 < (μ 2 11) then At cr2 d 100 4 [] [0, 0, 0, 0, 0] μ else At cr2 d 100 5 [] [0, x1, x2, 2, 0] μ) := (At_eq cr2 d 100 3 _ _ _).trans rfl
set_option maxRecDepth 20000 in
theorem B100_4 (d : Nat) (μ : amM) : At cr2 d 100 4 [] [0, 0, 0, 0, 0] μ = bnd (RD cr2 d 141 [0, 3] μ) (fun v1 μ1 => some (v1, μ1)) := (At_eq cr2 d 100 4 _ _ _).trans rfl
set_option maxRecDepth 20000 in
theorem B100_5 (d : Nat) (x1 x2 : Int) (μ : amM) : At cr2 d 100 5 [] [0, x1, x2, 2, 0] μ = (if x1 = 0 then At cr2 d 100 7 [(μ 2 11)] [0, x1, x2, 2, 0] μ else At cr2 d 100 6 [] [0, x1, x2, 2, 0] μ) := (At_eq cr2 d 100 5 _ _ _).trans rfl
set_option maxRecDepth 20000 in
theorem B100_6 (d : Nat) (x1 x2 : Int) (μ : amM) : At cr2 d 100 6 [] [0, x1, x2, 2, 0] μ = At cr2 d 100 7 [(μ 2 12)] [0, x1, x2, 2, 0] μ := (At_eq cr2 d 100 6 _ _ _).trans rfl
set_option maxRecDepth 20000 in
theorem B100_7 (d : Nat) (s0 x1 x2 : Int) (μ : amM) : At cr2 d 100 7 [s0] [0, x1, x2, 2, 0] μ = (if x1 = 0 then wf 2 11 μ x2 (fun μ1 => At cr2 d 100 9 [] [0, 0, 0, 0, s0] μ1) else At cr2 d 100 8 [] [0, 0, x2, 2, s0] μ) := (At_eq cr2 d 100 7 _ _ _).trans rfl
set_option maxRecDepth 20000 in
theorem B100_8 (d : Nat) (x2 x4 : Int) (μ : amM) : At cr2 d 100 8 [] [0, 0, x2, 2, x4] μ = wf 2 12 μ x2 (fun μ1 => At cr2 d 100 9 [] [0, 0, 0, 0, x4] μ1) := (At_eq cr2 d 100 8 _ _ _).trans rfl
set_option maxRecDepth 20000 in
theorem B100_9 (d : Nat) (x4 : Int) (μ : amM) : At cr2 d 100 9 [] [0, 0, 0, 0, x4] μ = some (x4, μ) := (At_eq cr2 d 100 9 _ _ _).trans rfl
set_option maxRecDepth 20000 in
theorem B101_0 (d : Nat) (x1 x2 x3 : Int) (μ : amM) : At cr2 d 101 0 [] [0, x1, x2, x3, 0] μ = bnd (RD cr2 d 148 [0, x1, x2, x3] μ) (fun v1 μ1 => (if v1 = 0 then At cr2 d 101 1 [] [0, x1, x2, x3, 0] μ1 else bnd (RD cr2 d 141 [0, v1] μ1) (fun v2 μ2 => some (v2, μ2)))) := (At_eq cr2 d 101 0 _ _ _).trans rfl
set_option maxRecDepth 20000 in
theorem B101_1 (d : Nat) (x1 x2 x3 : Int) (μ : amM) : At cr2 d 101 1 [] [0, x1, x2, x3, 0] μ = bnd (RD cr2 d 6 [x3] μ) (fun v1 μ1 => bnd (RD cr2 d 67 [2, x1, (w32 (x2.tdiv 10)), (x2.tmod 10), v1] μ1) (fun _ μ2 => bnd (RD cr2 d 68 [2] μ2) (fun v2 μ3 => some (v2, μ3)))) := (At_eq cr2 d 101 1 _ _ _).trans rfl
set_option maxRecDepth 20000 in
theorem B102_0 (d : Nat) (x1 : Int) (μ : amM) : At cr2 d 102 0 [] [0, x1] μ = bnd (RD cr2 d 143 [0, x1] μ) (fun v1 μ1 => (if v1 = 0 then bnd (RD cr2 d 141 [0, 1] μ1) (fun v2 μ2 => some (v2, μ2)) else At cr2 d 102 1 [] [0, x1] μ1)) := (At_eq cr2 d 102 0 _ _ _).trans rfl
set_option maxRecDepth 20000 in
theorem B102_1 (d : Nat) (x1 : Int) (μ : amM) : At cr2 d 102 1 [] [0, x1] μ = bnd (RD cr2 d 144 [0, x1] μ) (fun v1 μ1 => (if v1 = 0 then At cr2 d 102 2 [] [0, x1] μ1 else bnd (RD cr2 d 141 [0, 2] μ1) (fun v2 μ2 => some (v2, μ2)))) := (At_eq cr2 d 102 1 _ _ _).trans rfl
set_option maxRecDepth 20000 in
theorem B102_2 (d : Nat) (x1 : Int) (μ : amM) : At cr2 d 102 2 [] [0, x1] μ = wr 3 64 μ x1 (-1) (fun μ1 => rd 5 64 μ1 x1 (fun v1 => bnd (RD cr2 d 9 [v1] μ1) (fun v2 μ2 => some (v2, μ2)))) := (At_eq cr2 d 102 2 _ _ _).trans rfl
set_option maxRecDepth 20000 in
theorem B103_0 (d : Nat) (x1 x2 : Int) (μ : amM) : At cr2 d 103 0 [] [0, x1, x2, 0] μ = bnd (RD cr2 d 143 [0, x1] μ) (fun v1 μ1 => (if v1 = 0 then At cr2 d 103 1 [] [0, 0, 0, 0] μ1 else bnd (RD cr2 d 142 [x2, 0, 11] μ1) (fun v2 μ2 => (if v2 = 0 then At cr2 d 103 1 [] [0, 0, 0, 0] μ2 else At cr2 d 103 2 [] [0, x1, x2, 0] μ2)))) := (At_eq cr2 d 103 0 _ _ _).trans rfl
set_option maxRecDepth 20000 in
theorem B103_1 (d : Nat) (μ : amM) : At cr2 d 103 1 [] [0, 0, 0, 0] μ = bnd (RD cr2 d 141 [0, 1] μ) (fun v1 μ1 => some (v1, μ1)) := (At_eq cr2 d 103 1 _ _ _).trans rfl
set_option maxRecDepth 20000 in
theorem B103_2 (d : Nat) (x1 x2 : Int) (μ : amM) : At cr2 d 103 2 [] [0, x1, x2, 0] μ = (if x2 = 0 then bnd (RD cr2 d 144 [0, x1] μ) (fun v1 μ1 => (if v1 = 0 then At cr2 d 103 3 [] [0, 0, 0, 0] μ1 else At cr2 d 103 4 [0] [0, 0, 0, 0] μ1)) else At cr2 d 103 5 [] [0, x1, x2, 0] μ) := (At_eq cr2 d 103 2 _ _ _).trans rfl
set_option maxRecDepth 20000 in
theorem B103_3 (d : Nat) (μ : amM) : At cr2 d 103 3 [] [0, 0, 0, 0] μ = At cr2 d 103 4 [1] [0, 0, 0, 0] μ := (At_eq cr2 d 103 3 _ _ _).trans rfl
set_option maxRecDepth 20000 in
theorem B103_4 (d : Nat) (s0 : Int) (μ : amM) : At cr2 d 103 4 [s0] [0, 0, 0, 0] μ = some (s0, μ) := (At_eq cr2 d 103 4 _ _ _).trans rfl
set_option maxRecDepth 20000 in
theorem B103_5 (d : Nat) (x1 x2 : Int) (μ : amM) : At cr2 d 103 5 [] [0, x1, x2, 0] μ = bnd (RD cr2 d 144 [0, x1] μ) (fun v1 μ1 => (if v1 = 0 then At cr2 d 103 6 [] [0, x1, x2, 0] μ1 else bnd (RD cr2 d 141 [0, 2] μ1) (fun v2 μ2 => some (v2, μ2)))) := (At_eq cr2 d 103 5 _ _ _).trans rfl
set_option maxRecDepth 20000 in
theorem B103_6 (d : Nat) (x1 x2 : Int) (μ : amM) : At cr2 d 103 6 [] [0, x1, x2, 0] μ = (if x2 = 1 then rd 3 64 μ x1 (fun v1 => some (v1, μ)) else At cr2 d 103 7 [] [0, x1, x2, 2] μ) := (At_eq cr2 d 103 6 _ _ _).trans rfl
set_option maxRecDepth 20000 in
theorem B103_7 (d : Nat) (x1 x2 : Int) (μ : amM) : At cr2 d 103 7 [] [0, x1, x2, 2] μ = (if x2 = 2 then rd 4 64 μ x1 (fun v1 => some (v1, μ)) else At cr2 d 103 8 [] [0, x1, x2, 2] μ) := (At_eq cr2 d 103 7 _ _ _).trans rfl
set_option maxRecDepth 20000 in
theorem B103_8 (d : Nat) (x1 x2 : Int) (μ : amM) : At cr2 d 103 8 [] [0, x1, x2, 2] μ = (if x2 < 7 then rd 5 64 μ x1 (fun v1 => bnd (RD cr2 d 7 [v1, (w32 (x2 - 3))] μ) (fun v2 μ1 => some (v2, μ1))) else At cr2 d 103 9 [] [0, x1, x2, 2] μ) := (At_eq cr2 d 103 8 _ _ _).trans rfl
set_option maxRecDepth 20000 in
theorem B103_9 (d : Nat) (x1 x2 : Int) (μ : amM) : At cr2 d 103 9 [] [0, x1, x2, 2] μ = (if x2 < 11 then bnd (RD cr2 d 44 [1, x1, (w32 (x2 - 7))] μ) (fun v1 μ1 => At cr2 d 103 11 [v1] [0, 0, 0, 0] μ1) else At cr2 d 103 10 [] [0, x1, 0, 2] μ) := (At_eq cr2 d 103 9 _ _ _).trans rfl
set_option maxRecDepth 20000 in
theorem B103_10 (d : Nat) (x1 : Int) (μ : amM) : At cr2 d 103 10 [] [0, x1, 0, 2] μ = rd 5 64 μ x1 (fun v1 => bnd (RD cr2 d 45 [1, v1] μ) (fun v2 μ1 => At cr2 d 103 11 [v2] [0, 0, 0, 0] μ1)) := (At_eq cr2 d 103 10 _ _ _).trans rfl
set_option maxRecDepth 20000 in
theorem B103_11 (d : Nat) (s0 : Int) (μ : amM) : At cr2 d 103 11 [s0] [0, 0, 0, 0] μ = some (s0, μ) := (At_eq cr2 d 103 11 _ _ _).trans rfl
set_option maxRecDepth 20000 in
theorem B104_0 (d : Nat) (x1 x2 : Int) (μ : amM) : At cr2 d 104 0 [] [0, x1, x2, 0] μ = bnd (RD cr2 d 143 [0, x1] μ) (fun v1 μ1 => (if v1 = 0 then At cr2 d 104 1 [] [0, 0, 0, 0] μ1 else bnd (RD cr2 d 146 [x2] μ1) (fun v2 μ2 => (if v2 = 0 then At cr2 d 104 1 [] [0, 0, 0, 0] μ2 else At cr2 d 104 2 [] [0, x1, x2, 0] μ2)))) := (At_eq cr2 d 104 0 _ _ _).trans rfl
set_option maxRecDepth 20000 in
theorem B104_1 (d : Nat) (μ : amM) : At cr2 d 104 1 [] [0, 0, 0, 0] μ = bnd (RD cr2 d 141 [0, 1] μ) (fun v1 μ1 => some (v1, μ1)) := (At_eq cr2 d 104 1 _ _ _).trans rfl
set_option maxRecDepth 20000 in
theorem B104_2 (d : Nat) (x1 x2 : Int) (μ : amM) : At cr2 d 104 2 [] [0, x1, x2, 0] μ = bnd (RD cr2 d 144 [0, x1] μ) (fun v1 μ1 => (if v1 = 0 then At cr2 d 104 3 [] [0, x1, x2, 0] μ1 else bnd (RD cr2 d 141 [0, 2] μ1) (fun v2 μ2 => some (v2, μ2)))) := (At_eq cr2 d 104 2 _ _ _).trans rfl
set_option maxRecDepth 20000 in
theorem B104_3 (d : Nat) (x1 x2 : Int) (μ : amM) : At cr2 d 104 3 [] [0, x1, x2, 0] μ = rd 3 64 μ x1 (fun v1 => wr 3 64 μ x1 (w32 (x2.tdiv 10)) (fun μ1 => wr 4 64 μ1 x1 (x2.tmod 10) (fun μ2 => some (v1, μ2)))) := (At_eq cr2 d 104 3 _ _ _).trans rfl
set_option maxRecDepth 20000 in
theorem B105_0 (d : Nat) (x1 x2 : Int) (μ : amM) : At cr2 d 105 0 [] [0, x1, x2] μ = bnd (RD cr2 d 143 [0, x1] μ) (fun v1 μ1 => (if v1 = 0 then At cr2 d 105 1 [] [0, 0, 0] μ1 else bnd (RD cr2 d 142 [x2, 0, 6] μ1) (fun v2 μ2 => (if v2 = 0 then At cr2 d 105 1 [] [0, 0, 0] μ2 else At cr2 d 105 2 [] [0, x1, x2] μ2)))) := (At_eq cr2 d 105 0 _ _ _).trans rfl
set_option maxRecDepth 20000 in
theorem B105_1 (d : Nat) (μ : amM) : At cr2 d 105 1 [] [0, 0, 0] μ = bnd (RD cr2 d 141 [0, 1] μ) (fun v1 μ1 => some (v1, μ1)) := (At_eq cr2 d 105 1 _ _ _).trans rfl
set_option maxRecDepth 20000 in
theorem B105_2 (d : Nat) (x1 x2 : Int) (μ : amM) : At cr2 d 105 2 [] [0, x1, x2] μ = bnd (RD cr2 d 144 [0, x1] μ) (fun v1 μ1 => (if v1 = 0 then At cr2 d 105 3 [] [0, x1, x2] μ1 else bnd (RD cr2 d 141 [0, 2] μ1) (fun v2 μ2 => some (v2, μ2)))) := (At_eq cr2 d 105 2 _ _ _).trans rfl
set_option maxRecDepth 20000 in
theorem B105_3 (d : Nat) (x1 x2 : Int) (μ : amM) : At cr2 d 105 3 [] [0, x1, x2] μ = rd 3 64 μ x1 (fun v1 => bnd (RD cr2 d 85 [v1, x2] μ) (fun v2 μ1 => (if v2 = 0 then bnd (RD cr2 d 141 [0, 5] μ1) (fun v3 μ2 => some (v3, μ2)) else At cr2 d 105 4 [] [0, x1, 0] μ1))) := (At_eq cr2 d 105 3 _ _ _).trans rfl
set_option maxRecDepth 20000 in
theorem B105_4 (d : Nat) (x1 : Int) (μ : amM) : At cr2 d 105 4 [] [0, x1, 0] μ = rd 4 64 μ x1 (fun v1 => some (v1, μ)) := (At_eq cr2 d 105 4 _ _ _).trans rfl
set_option maxRecDepth 20000 in
theorem B106_0 (d : Nat) (x1 x2 x3 : Int) (μ : amM) : At cr2 d 106 0 [] [0, x1, x2, x3, 0, 0] μ = bnd (RD cr2 d 143 [0, x1] μ) (fun v1 μ1 => (if v1 = 0 then At cr2 d 106 1 [] [0, 0, 0, 0, 0, 0] μ1 else bnd (RD cr2 d 145 [x2, x3] μ1) (fun v2 μ2 => (if v2 = 0 then At cr2 d 106 1 [] [0, 0, 0, 0, 0, 0] μ2 else At cr2 d 106 2 [] [0, x1, x2, x3, 0, 0] μ2)))) := (At_eq cr2 d 106 0 _ _ _).trans rfl
set_option maxRecDepth 20000 in
theorem B106_1 (d : Nat) (μ : amM) : At cr2 d 106 1 [] [0, 0, 0, 0, 0, 0] μ = bnd (RD cr2 d 141 [0, 1] μ) (fun v1 μ1 => some (v1, μ1)) := (At_eq cr2 d 106 1 _ _ _).trans rfl
set_option maxRecDepth 20000 in
theorem B106_2 (d : Nat) (x1 x2 x3 : Int) (μ : amM) : At cr2 d 106 2 [] [0, x1, x2, x3, 0, 0] μ = bnd (RD cr2 d 144 [0, x1] μ) (fun v1 μ1 => (if v1 = 0 then At cr2 d 106 3 [] [0, x1, x2, x3, 0, 0] μ1 else bnd (RD cr2 d 141 [0, 2] μ1) (fun v2 μ2 => some (v2, μ2)))) := (At_eq cr2 d 106 2 _ _ _).trans rfl
set_option maxRecDepth 20000 in
theorem B106_3 (d : Nat) (x1 x2 x3 : Int) (μ : amM) : At cr2 d 106 3 [] [0, x1, x2, x3, 0, 0] μ = bnd (RD cr2 d 71 [2, x1, x2, x3] μ) (fun v1 μ1 => (if v1 = 0 then bnd (RD cr2 d 141 [0, 3] μ1) (fun v2 μ2 => some (v2, μ2)) else At cr2 d 106 4 [] [0, x1, x2, x3, 2, 0] μ1)) := (At_eq cr2 d 106 3 _ _ _).trans rfl
set_option maxRecDepth 20000 in
theorem B106_4 (d : Nat) (x1 x2 x3 : Int) (μ : amM) : At cr2 d 106 4 [] [0, x1, x2, x3, 2, 0] μ = rd 5 64 μ x1 (fun v1 => bnd (RD cr2 d 8 [v1, x2, x3] μ) (fun v2 μ1 => bnd (RD cr2 d 74 [2, x1, v2] μ1) (fun v3 μ2 => (if v3 = 0 then bnd (RD cr2 d 141 [0, 5] μ2) (fun v4 μ3 => some (v4, μ3)) else At cr2 d 106 5 [] [0, x1, x2, x3, 0, 0] μ2)))) := (At_eq cr2 d 106 4 _ _ _).trans rfl
set_option maxRecDepth 20000 in
theorem B106_5 (d : Nat) (x1 x2 x3 : Int) (μ : amM) : At cr2 d 106 5 [] [0, x1, x2, x3, 0, 0] μ = bnd (RD cr2 d 47 [1, x1, x2, x3] μ) (fun _ μ1 => some ((μ1 1 7), μ1)) := (At_eq cr2 d 106 5 _ _ _).trans rfl
set_option maxRecDepth 20000 in
theorem B107_0 (d : Nat) (x1 x2 : Int) (μ : amM) : At cr2 d 107 0 [] [0, x1, x2] μ = bnd (RD cr2 d 143 [0, x1] μ) (fun v1 μ1 => (if v1 = 0 then At cr2 d 107 1 [] [0, 0, 0] μ1 else bnd (RD cr2 d 143 [0, x2] μ1) (fun v2 μ2 => (if v2 = 0 then At cr2 d 107 1 [] [0, 0, 0] μ2 else At cr2 d 107 2 [] [0, x1, x2] μ2)))) := (At_eq cr2 d 107 0 _ _ _).trans rfl
set_option maxRecDepth 20000 in
theorem B107_1 (d : Nat) (μ : amM) : At cr2 d 107 1 [] [0, 0, 0] μ = bnd (RD cr2 d 141 [0, 1] μ) (fun v1 μ1 => some (v1, μ1)) := (At_eq cr2 d 107 1 _ _ _).trans rfl
set_option maxRecDepth 20000 in
theorem B107_2 (d : Nat) (x1 x2 : Int) (μ : amM) : At cr2 d 107 2 [] [0, x1, x2] μ = bnd (RD cr2 d 144 [0, x1] μ) (fun v1 μ1 => (if v1 = 0 then bnd (RD cr2 d 144 [0, x2] μ1) (fun v2 μ2 => (if v2 = 0 then At cr2 d 107 4 [] [0, x1, x2] μ2 else At cr2 d 107 3 [] [0, 0, 0] μ2)) else At cr2 d 107 3 [] [0, 0, 0] μ1)) := (At_eq cr2 d 107 2 _ _ _).trans rfl
set_option maxRecDepth 20000 in
theorem B107_3 (d : Nat) (μ : amM) : At cr2 d 107 3 [] [0, 0, 0] μ = bnd (RD cr2 d 141 [0, 2] μ) (fun v1 μ1 => some (v1, μ1)) := (At_eq cr2 d 107 3 _ _ _).trans rfl
set_option maxRecDepth 20000 in
theorem B107_4 (d : Nat) (x1 x2 : Int) (μ : amM) : At cr2 d 107 4 [] [0, x1, x2] μ = rd 5 64 μ x1 (fun v1 => rd 5 64 μ x2 (fun v2 => bnd (RD cr2 d 11 [v1, v2] μ) (fun v3 μ1 => some (v3, μ1)))) := (At_eq cr2 d 107 4 _ _ _).trans rfl
set_option maxRecDepth 20000 in
theorem B108_0 (d : Nat) (x1 x2 : Int) (μ : amM) : At cr2 d 108 0 [] [0, x1, x2, 0] μ = bnd (RD cr2 d 143 [0, x1] μ) (fun v1 μ1 => (if v1 = 0 then At cr2 d 108 1 [] [0, 0, 0, 0] μ1 else (if x2 < (-1) then At cr2 d 108 1 [] [0, 0, 0, 0] μ1 else At cr2 d 108 2 [] [0, x1, x2, 0] μ1))) := (At_eq cr2 d 108 0 _ _ _).trans rfl
set_option maxRecDepth 20000 in
theorem B108_1 (d : Nat) (μ : amM) : At cr2 d 108 1 [] [0, 0, 0, 0] μ = bnd (RD cr2 d 141 [0, 1] μ) (fun v1 μ1 => some (v1, μ1)) := (At_eq cr2 d 108 1 _ _ _).trans rfl
set_option maxRecDepth 20000 in
theorem B108_2 (d : Nat) (x1 x2 : Int) (μ : amM) : At cr2 d 108 2 [] [0, x1, x2, 0] μ = (if x2 = (-1) then bnd (RD cr2 d 75 [2, x1] μ) (fun v1 μ1 => some (v1, μ1)) else At cr2 d 108 3 [] [0, x1, x2, 0] μ) := (At_eq cr2 d 108 2 _ _ _).trans rfl
set_option maxRecDepth 20000 in
theorem B108_3 (d : Nat) (x1 x2 : Int) (μ : amM) : At cr2 d 108 3 [] [0, x1, x2, 0] μ = bnd (RD cr2 d 76 [2, x1, x2] μ) (fun v1 μ1 => (if v1 = (-1) then bnd (RD cr2 d 141 [0, 2] μ1) (fun v2 μ2 => At cr2 d 108 5 [v2] [0, 0, 0, 0] μ2) else At cr2 d 108 4 [] [0, 0, 0, v1] μ1)) := (At_eq cr2 d 108 3 _ _ _).trans rfl
set_option maxRecDepth 20000 in
theorem B108_4 (d : Nat) (x3 : Int) (μ : amM) : At cr2 d 108 4 [] [0, 0, 0, x3] μ = At cr2 d 108 5 [x3] [0, 0, 0, 0] μ := (At_eq cr2 d 108 4 _ _ _).trans rfl
set_option maxRecDepth 20000 in
theorem B108_5 (d : Nat) (s0 : Int) (μ : amM) : At cr2 d 108 5 [s0] [0, 0, 0, 0] μ = some (s0, μ) := (At_eq cr2 d 108 5 _ _ _).trans rfl
set_option maxRecDepth 20000 in
theorem B109_0 (d : Nat) (x1 : Int) (μ : amM) : At cr2 d 109 0 [] [0, x1, 0] μ = (if x1 < (-1) then bnd (RD cr2 d 141 [0, 1] μ) (fun v1 μ1 => some (v1, μ1)) else At cr2 d 109 1 [] [0, x1, 0] μ) := (At_eq cr2 d 109 0 _ _ _).trans rfl
set_option maxRecDepth 20000 in
theorem B109_1 (d : Nat) (x1 : Int) (μ : amM) : At cr2 d 109 1 [] [0, x1, 0] μ = bnd (RD cr2 d 79 [2] μ) (fun v1 μ1 => (if x1 = (-1) then some (v1, μ1) else At cr2 d 109 2 [] [0, x1, v1] μ1)) := (At_eq cr2 d 109 1 _ _ _).trans rfl
set_option maxRecDepth 20000 in
theorem B109_2 (d : Nat) (x1 x2 : Int) (μ : amM) : At cr2 d 109 2 [] [0, x1, x2] μ = (if x1 < x2 then rd 8 128 μ x1 (fun v1 => At cr2 d 109 4 [v1] [0, 0, 0] μ) else At cr2 d 109 3 [] [0, 0, 0] μ) := (At_eq cr2 d 109 2 _ _ _).trans rfl
set_option maxRecDepth 20000 in
theorem B109_3 (d : Nat) (μ : amM) : At cr2 d 109 3 [] [0, 0, 0] μ = bnd (RD cr2 d 141 [0, 2] μ) (fun v1 μ1 => At cr2 d 109 4 [v1] [0, 0, 0] μ1) := (At_eq cr2 d 109 3 _ _ _).trans rfl
set_option maxRecDepth 20000 in
theorem B109_4 (d : Nat) (s0 : Int) (μ : amM) : At cr2 d 109 4 [s0] [0, 0, 0] μ = some (s0, μ) := (At_eq cr2 d 109 4 _ _ _).trans rfl
set_option maxRecDepth 20000 in
theorem B110_0 (d : Nat) (x1 x3 : Int) (μ : amM) : At cr2 d 110 0 [] [0, x1, 0, x3, 0] μ = bnd (RD cr2 d 142 [x3, 1, 8] μ) (fun v1 μ1 => (if v1 = 0 then bnd (RD cr2 d 141 [0, 1] μ1) (fun v2 μ2 => some (v2, μ2)) else At cr2 d 110 1 [] [0, x1, 0, x3, 0] μ1)) := (At_eq cr2 d 110 0 _ _ _).trans rfl
set_option maxRecDepth 20000 in
theorem B110_1 (d : Nat) (x1 x3 : Int) (μ : amM) : At cr2 d 110 1 [] [0, x1, 0, x3, 0] μ = (if 50 < (w32 ((μ 1 4) + x3)) then bnd (RD cr2 d 141 [0, 4] μ) (fun v1 μ1 => some (v1, μ1)) else At cr2 d 110 2 [] [0, x1, 0, x3, 0] μ) := (At_eq cr2 d 110 1 _ _ _).trans rfl
set_option maxRecDepth 20000 in
theorem B110_2 (d : Nat) (x1 x3 : Int) (μ : amM) : At cr2 d 110 2 [] [0, x1, 0, x3, 0] μ = At cr2 d 110 3 [] [0, x1, 0, x3, 0] μ := (At_eq cr2 d 110 2 _ _ _).trans rfl
set_option maxRecDepth 20000 in
theorem B110_3 (d : Nat) (x1 x3 x4 : Int) (μ : amM) : At cr2 d 110 3 [] [0, x1, 0, x3, x4] μ = (if x4 < x3 then wr 11 50 μ (w32 ((μ 1 4) + x4)) (bAnd (w32 (lUshr x1 (w32 (8 * x4)))) 255) (fun μ1 => At cr2 d 110 3 [] [0, x1, 0, x3, (w32 (x4 + 1))] μ1) else At cr2 d 110 4 [] [0, 0, 0, x3, 0] μ) := (At_eq cr2 d 110 3 _ _ _).trans rfl
set_option maxRecDepth 20000 in
theorem B110_4 (d : Nat) (x3 : Int) (μ : amM) : At cr2 d 110 4 [] [0, 0, 0, x3, 0] μ = wf 1 4 μ (w32 ((μ 1 4) + x3)) (fun μ1 => some ((μ1 1 4), μ1)) := (At_eq cr2 d 110 4 _ _ _).trans rfl
set_option maxRecDepth 20000 in
theorem B111_0 (d : Nat) (x1 : Int) (μ : amM) : At cr2 d 111 0 [] [0, x1, 0] μ = bnd (RD cr2 d 142 [x1, 0, 1] μ) (fun v1 μ1 => (if v1 = 0 then bnd (RD cr2 d 141 [0, 1] μ1) (fun v2 μ2 => some (v2, μ2)) else At cr2 d 111 1 [] [0, x1, 0] μ1)) := (At_eq cr2 d 111 0 _ _ _).trans rfl
set_option maxRecDepth 20000 in
theorem B111_1 (d : Nat) (x1 : Int) (μ : amM) : At cr2 d 111 1 [] [0, x1, 0] μ = bnd (RD cr2 d 24 [37, 11, (μ 1 4), x1] μ) (fun v1 μ1 => wf 1 4 μ1 0 (fun μ2 => (if v1 = (-1) then At cr2 d 111 2 [] [0, x1, 0] μ2 else some ((w32 ((-10) - v1)), μ2)))) := (At_eq cr2 d 111 1 _ _ _).trans rfl
set_option maxRecDepth 20000 in
theorem B111_2 (d : Nat) (x1 : Int) (μ : amM) : At cr2 d 111 2 [] [0, x1, 0] μ = amQld cr2 23 μ 10 x1 (fun v1 => if amTg v1 = 3 then bnd (RD cr2 d 57 [v1, 38] μ) (fun _ μ1 => some (1, μ1)) else none) := (At_eq cr2 d 111 2 _ _ _).trans rfl
set_option maxRecDepth 20000 in
theorem B112_0 (d : Nat) (x1 x2 x3 x4 x5 : Int) (μ : amM) : At cr2 d 112 0 [] [0, x1, x2, x3, x4, x5] μ = bnd (RD cr2 d 142 [x1, 0, 1] μ) (fun v1 μ1 => (if v1 = 0 then bnd (RD cr2 d 141 [0, 1] μ1) (fun v2 μ2 => some (v2, μ2)) else At cr2 d 112 1 [] [0, x1, x2, x3, x4, x5] μ1)) := (At_eq cr2 d 112 0 _ _ _).trans rfl
set_option maxRecDepth 20000 in
theorem B112_1 (d : Nat) (x1 x2 x3 x4 x5 : Int) (μ : amM) : At cr2 d 112 1 [] [0, x1, x2, x3, x4, x5] μ = (if x1 = 0 then bnd (RD cr2 d 42 [1, x2, x3] μ) (fun v1 μ1 => At cr2 d 112 3 [v1] [0, 0, 0, 0, 0, 0] μ1) else At cr2 d 112 2 [] [0, 0, x2, x3, x4, x5] μ) := (At_eq cr2 d 112 1 _ _ _).trans rfl
set_option maxRecDepth 20000 in
theorem B112_2 (d : Nat) (x2 x3 x4 x5 : Int) (μ : amM) : At cr2 d 112 2 [] [0, 0, x2, x3, x4, x5] μ = bnd (RD cr2 d 43 [1, x2, x3, x4, x5] μ) (fun v1 μ1 => At cr2 d 112 3 [v1] [0, 0, 0, 0, 0, 0] μ1) := (At_eq cr2 d 112 2 _ _ _).trans rfl
set_option maxRecDepth 20000 in
theorem B112_3 (d : Nat) (s0 : Int) (μ : amM) : At cr2 d 112 3 [s0] [0, 0, 0, 0, 0, 0] μ = some (s0, μ) := (At_eq cr2 d 112 3 _ _ _).trans rfl
set_option maxRecDepth 20000 in
theorem B113_0 (d : Nat) (x1 x2 x3 x4 : Int) (μ : amM) : At cr2 d 113 0 [] [0, x1, x2, x3, x4, 0] μ = bnd (RD cr2 d 143 [0, x1] μ) (fun v1 μ1 => (if v1 = 0 then At cr2 d 113 1 [] [0, 0, 0, 0, 0, 0] μ1 else bnd (RD cr2 d 145 [x2, x3] μ1) (fun v2 μ2 => (if v2 = 0 then At cr2 d 113 1 [] [0, 0, 0, 0, 0, 0] μ2 else bnd (RD cr2 d 142 [x4, 0, 1] μ2) (fun v3 μ3 => (if v3 = 0 then At cr2 d 113 1 [] [0, 0, 0, 0, 0, 0] μ3 else At cr2 d 113 2 [] [0, x1, x2, x3, x4, 0] μ3)))))) := (At_eq cr2 d 113 0 _ _ _).trans rfl
set_option maxRecDepth 20000 in
theorem B113_1 (d : Nat) (μ : amM) : At cr2 d 113 1 [] [0, 0, 0, 0, 0, 0] μ = bnd (RD cr2 d 141 [0, 1] μ) (fun v1 μ1 => some (v1, μ1)) := (At_eq cr2 d 113 1 _ _ _).trans rfl
set_option maxRecDepth 20000 in
theorem B113_2 (d : Nat) (x1 x2 x3 x4 : Int) (μ : amM) : At cr2 d 113 2 [] [0, x1, x2, x3, x4, 0] μ = bnd (RD cr2 d 144 [0, x1] μ) (fun v1 μ1 => (if v1 = 0 then At cr2 d 113 3 [] [0, x1, x2, x3, x4, 0] μ1 else bnd (RD cr2 d 141 [0, 2] μ1) (fun v2 μ2 => some (v2, μ2)))) := (At_eq cr2 d 113 2 _ _ _).trans rfl
set_option maxRecDepth 20000 in
theorem B113_3 (d : Nat) (x1 x2 x3 x4 : Int) (μ : amM) : At cr2 d 113 3 [] [0, x1, x2, x3, x4, 0] μ = bnd (RD cr2 d 13 [41, 1, x1, x2, x3] μ) (fun v1 μ1 => (if v1 = (-1) then bnd (RD cr2 d 141 [0, 2] μ1) (fun v2 μ2 => some (v2, μ2)) else At cr2 d 113 4 [] [0, 0, 0, 0, x4, v1] μ1)) := (At_eq cr2 d 113 3 _ _ _).trans rfl
set_option maxRecDepth 20000 in
theorem B113_4 (d : Nat) (x4 x5 : Int) (μ : amM) : At cr2 d 113 4 [] [0, 0, 0, 0, x4, x5] μ = (if x4 = 0 then At cr2 d 113 6 [x5] [0, 0, 0, 0, 0, 0] μ else At cr2 d 113 5 [] [0, 0, 0, 0, 0, 0] μ) := (At_eq cr2 d 113 4 _ _ _).trans rfl
set_option maxRecDepth 20000 in
theorem B113_5 (d : Nat) (μ : amM) : At cr2 d 113 5 [] [0, 0, 0, 0, 0, 0] μ = At cr2 d 113 6 [(μ 41 5)] [0, 0, 0, 0, 0, 0] μ := (At_eq cr2 d 113 5 _ _ _).trans rfl
set_option maxRecDepth 20000 in
theorem B113_6 (d : Nat) (s0 : Int) (μ : amM) : At cr2 d 113 6 [s0] [0, 0, 0, 0, 0, 0] μ = some (s0, μ) := (At_eq cr2 d 113 6 _ _ _).trans rfl
set_option maxRecDepth 20000 in
theorem B114_0 (d : Nat) (x1 x2 x3 : Int) (μ : amM) : At cr2 d 114 0 [] [0, x1, x2, x3, 0] μ = bnd (RD cr2 d 143 [0, x1] μ) (fun v1 μ1 => (if v1 = 0 then At cr2 d 114 1 [] [0, 0, 0, 0, 0] μ1 else bnd (RD cr2 d 145 [x2, x3] μ1) (fun v2 μ2 => (if v2 = 0 then At cr2 d 114 1 [] [0, 0, 0, 0, 0] μ2 else At cr2 d 114 2 [] [0, x1, x2, x3, 0] μ2)))) := (At_eq cr2 d 114 0 _ _ _).trans rfl
set_option maxRecDepth 20000 in
theorem B114_1 (d : Nat) (μ : amM) : At cr2 d 114 1 [] [0, 0, 0, 0, 0] μ = bnd (RD cr2 d 141 [0, 1] μ) (fun v1 μ1 => some (v1, μ1)) := (At_eq cr2 d 114 1 _ _ _).trans rfl
set_option maxRecDepth 20000 in
theorem B114_2 (d : Nat) (x1 x2 x3 : Int) (μ : amM) : At cr2 d 114 2 [] [0, x1, x2, x3, 0] μ = bnd (RD cr2 d 144 [0, x1] μ) (fun v1 μ1 => (if v1 = 0 then At cr2 d 114 3 [] [0, x1, x2, x3, 0] μ1 else bnd (RD cr2 d 141 [0, 2] μ1) (fun v2 μ2 => some (v2, μ2)))) := (At_eq cr2 d 114 2 _ _ _).trans rfl
set_option maxRecDepth 20000 in
theorem B114_3 (d : Nat) (x1 x2 x3 : Int) (μ : amM) : At cr2 d 114 3 [] [0, x1, x2, x3, 0] μ = bnd (RD cr2 d 79 [2] μ) (fun v1 μ1 => (if 0 < v1 then bnd (RD cr2 d 141 [0, 3] μ1) (fun v2 μ2 => some (v2, μ2)) else At cr2 d 114 4 [] [0, x1, x2, x3, 0] μ1)) := (At_eq cr2 d 114 3 _ _ _).trans rfl
set_option maxRecDepth 20000 in
theorem B114_4 (d : Nat) (x1 x2 x3 : Int) (μ : amM) : At cr2 d 114 4 [] [0, x1, x2, x3, 0] μ = bnd (RD cr2 d 50 [50, 2, x1, x2, x3] μ) (fun v1 μ1 => (if v1 = (-1) then bnd (RD cr2 d 141 [0, 2] μ1) (fun v2 μ2 => At cr2 d 114 6 [v2] [0, 0, 0, 0, 0] μ2) else At cr2 d 114 5 [] [0, 0, 0, 0, v1] μ1)) := (At_eq cr2 d 114 4 _ _ _).trans rfl
set_option maxRecDepth 20000 in
theorem B114_5 (d : Nat) (x4 : Int) (μ : amM) : At cr2 d 114 5 [] [0, 0, 0, 0, x4] μ = At cr2 d 114 6 [x4] [0, 0, 0, 0, 0] μ := (At_eq cr2 d 114 5 _ _ _).trans rfl
set_option maxRecDepth 20000 in
theorem B114_6 (d : Nat) (s0 : Int) (μ : amM) : At cr2 d 114 6 [s0] [0, 0, 0, 0, 0] μ = some (s0, μ) := (At_eq cr2 d 114 6 _ _ _).trans rfl
set_option maxRecDepth 20000 in
theorem B115_0 (d : Nat) (μ : amM) : At cr2 d 115 0 [] [0, 0] μ = bnd (RD cr2 d 14 [41, 1] μ) (fun v1 μ1 => (if v1 = (-1) then bnd (RD cr2 d 141 [0, 2] μ1) (fun v2 μ2 => At cr2 d 115 2 [v2] [0, 0] μ2) else At cr2 d 115 1 [] [0, v1] μ1)) := (At_eq cr2 d 115 0 _ _ _).trans rfl
set_option maxRecDepth 20000 in
theorem B115_1 (d : Nat) (x1 : Int) (μ : amM) : At cr2 d 115 1 [] [0, x1] μ = At cr2 d 115 2 [x1] [0, 0] μ := (At_eq cr2 d 115 1 _ _ _).trans rfl
set_option maxRecDepth 20000 in
theorem B115_2 (d : Nat) (s0 : Int) (μ : amM) : At cr2 d 115 2 [s0] [0, 0] μ = some (s0, μ) := (At_eq cr2 d 115 2 _ _ _).trans rfl
set_option maxRecDepth 20000 in
theorem B116_0 (d : Nat) (x1 : Int) (μ : amM) : At cr2 d 116 0 [] [0, x1, 0, 0, 0] μ = bnd (RD cr2 d 142 [x1, 1, 9] μ) (fun v1 μ1 => (if v1 = 0 then bnd (RD cr2 d 141 [0, 1] μ1) (fun v2 μ2 => some (v2, μ2)) else At cr2 d 116 1 [] [0, x1, 0, 0, 0] μ1)) := (At_eq cr2 d 116 0 _ _ _).trans rfl
set_option maxRecDepth 20000 in
theorem B116_1 (d : Nat) (x1 : Int) (μ : amM) : At cr2 d 116 1 [] [0, x1, 0, 0, 0] μ = At cr2 d 116 2 [] [0, x1, 81, 0, 1] μ := (At_eq cr2 d 116 1 _ _ _).trans rfl
set_option maxRecDepth 20000 in
theorem B116_2 (d : Nat) (x1 x2 x4 : Int) (μ : amM) : At cr2 d 116 2 [] [0, x1, x2, 0, x4] μ = (if x4 < x1 then bnd (RD cr2 d 77 [2] μ) (fun v1 μ1 => At cr2 d 116 2 [] [0, x1, (w64 (x2 * v1)), 0, (w32 (x4 + 1))] μ1) else At cr2 d 116 3 [] [0, 0, x2, 0, 0] μ) := (At_eq cr2 d 116 2 _ _ _).trans rfl
set_option maxRecDepth 20000 in
theorem B116_3 (d : Nat) (x2 : Int) (μ : amM) : At cr2 d 116 3 [] [0, 0, x2, 0, 0] μ = some (x2, μ) := (At_eq cr2 d 116 3 _ _ _).trans rfl
set_option maxRecDepth 20000 in
theorem B117_0 (d : Nat) (x1 : Int) (μ : amM) : At cr2 d 117 0 [] [0, x1] μ = bnd (RD cr2 d 142 [x1, 3, 9] μ) (fun v1 μ1 => (if v1 = 0 then bnd (RD cr2 d 141 [0, 1] μ1) (fun v2 μ2 => some (v2, μ2)) else At cr2 d 117 1 [] [0, x1] μ1)) := (At_eq cr2 d 117 0 _ _ _).trans rfl
set_option maxRecDepth 20000 in
theorem B117_1 (d : Nat) (x1 : Int) (μ : amM) : At cr2 d 117 1 [] [0, x1] μ = bnd (RD cr2 d 91 [55, 2, x1] μ) (fun v1 μ1 => some (v1, μ1)) := (At_eq cr2 d 117 1 _ _ _).trans rfl
set_option maxRecDepth 20000 in
theorem B118_0 (d : Nat) (μ : amM) : At cr2 d 118 0 [] [0] μ = (if (μ 2 7) = 1 then (if 9 < (μ 2 10) then At cr2 d 118 1 [] [0] μ else At cr2 d 118 2 [] [0] μ) else At cr2 d 118 1 [] [0] μ) := (At_eq cr2 d 118 0 _ _ _).trans rfl
set_option maxRecDepth 20000 in
theorem B118_1 (d : Nat) (μ : amM) : At cr2 d 118 1 [] [0] μ = bnd (RD cr2 d 141 [0, 3] μ) (fun v1 μ1 => some (v1, μ1)) := (At_eq cr2 d 118 1 _ _ _).trans rfl
set_option maxRecDepth 20000 in
theorem B118_2 (d : Nat) (μ : amM) : At cr2 d 118 2 [] [0] μ = bnd (RD cr2 d 92 [55, 2] μ) (fun v1 μ1 => some (v1, μ1)) := (At_eq cr2 d 118 2 _ _ _).trans rfl
set_option maxRecDepth 20000 in
theorem B119_0 (d : Nat) (x1 : Int) (μ : amM) : At cr2 d 119 0 [] [0, x1, 0, 0, 0, 0] μ = bnd (RD cr2 d 147 [x1] μ) (fun v1 μ1 => (if v1 = 0 then bnd (RD cr2 d 141 [0, 1] μ1) (fun v2 μ2 => some (v2, μ2)) else At cr2 d 119 1 [] [0, x1, 0, 0, 0, 0] μ1)) := (At_eq cr2 d 119 0 _ _ _).trans rfl
set_option maxRecDepth 20000 in
theorem B119_1 (d : Nat) (x1 : Int) (μ : amM) : At cr2 d 119 1 [] [0, x1, 0, 0, 0, 0] μ = amQld cr2 24 μ 61 x1 (fun v1 => bnd (RD cr2 d 77 [2] μ) (fun v2 μ1 => if amTg v1 = 10 then bnd (RD cr2 d 35 [v1] μ1) (fun v3 μ2 => (if v3 = 0 then (if v2 = 0 then At cr2 d 119 2 [] [0, 0, 0, 0, 0, 0] μ2 else At cr2 d 119 3 [] [0, 0, v1, v2, 0, 0] μ2) else At cr2 d 119 2 [] [0, 0, 0, 0, 0, 0] μ2)) else none)) := (At_eq cr2 d 119 1 _ _ _).trans rfl
set_option maxRecDepth 20000 in
theorem B119_2 (d : Nat) (μ : amM) : At cr2 d 119 2 [] [0, 0, 0, 0, 0, 0] μ = bnd (RD cr2 d 141 [0, 2] μ) (fun v1 μ1 => some (v1, μ1)) := (At_eq cr2 d 119 2 _ _ _).trans rfl
set_option maxRecDepth 20000 in
theorem B119_3 (d : Nat) (x2 x3 : Int) (μ : amM) : At cr2 d 119 3 [] [0, 0, x2, x3, 0, 0] μ = At cr2 d 119 4 [] [0, 0, x2, x3, 0, 0] μ := (At_eq cr2 d 119 3 _ _ _).trans rfl
set_option maxRecDepth 20000 in
theorem B119_4 (d : Nat) (x2 x3 x4 x5 : Int) (μ : amM) : At cr2 d 119 4 [] [0, 0, x2, x3, x4, x5] μ = amGf cr2 μ 10 2 x2 (fun v1 => (if x5 < v1 then (if x5 = 0 then bnd (RD cr2 d 41 [1] μ) (fun v2 μ1 => At cr2 d 119 6 [(v2.tmod 81)] [0, 0, x2, x3, 0, x5] μ1) else At cr2 d 119 5 [] [0, 0, x2, x3, x4, x5] μ) else At cr2 d 119 7 [] [0, 0, x2, 0, 0, 0] μ)) := (At_eq cr2 d 119 4 _ _ _).trans rfl
set_option maxRecDepth 20000 in
theorem B119_5 (d : Nat) (x2 x3 x4 x5 : Int) (μ : amM) : At cr2 d 119 5 [] [0, 0, x2, x3, x4, x5] μ = bnd (RD cr2 d 41 [1] μ) (fun v1 μ1 => if x3 = 0 then none else bnd (RD cr2 d 78 [2, x4, (v1.tmod x3)] μ1) (fun v2 μ2 => At cr2 d 119 6 [v2] [0, 0, x2, x3, 0, x5] μ2)) := (At_eq cr2 d 119 5 _ _ _).trans rfl
set_option maxRecDepth 20000 in
theorem B119_6 (d : Nat) (s0 x2 x3 x5 : Int) (μ : amM) : At cr2 d 119 6 [s0] [0, 0, x2, x3, 0, x5] μ = if amTg x2 = 10 then bnd (RD cr2 d 37 [x2, x5, s0] μ) (fun _ μ1 => At cr2 d 119 4 [] [0, 0, x2, x3, s0, (w32 (x5 + 1))] μ1) else none := (At_eq cr2 d 119 6 _ _ _).trans rfl
set_option maxRecDepth 20000 in
theorem B119_7 (d : Nat) (x2 : Int) (μ : amM) : At cr2 d 119 7 [] [0, 0, x2, 0, 0, 0] μ = amGf cr2 μ 10 2 x2 (fun v1 => some (v1, μ)) := (At_eq cr2 d 119 7 _ _ _).trans rfl
set_option maxRecDepth 20000 in
theorem B120_0 (d : Nat) (x1 x2 : Int) (μ : amM) : At cr2 d 120 0 [] [0, x1, x2] μ = bnd (RD cr2 d 145 [x1, x2] μ) (fun v1 μ1 => (if v1 = 0 then bnd (RD cr2 d 141 [0, 1] μ1) (fun v2 μ2 => some (v2, μ2)) else At cr2 d 120 1 [] [0, x1, x2] μ1)) := (At_eq cr2 d 120 0 _ _ _).trans rfl
set_option maxRecDepth 20000 in
theorem B120_1 (d : Nat) (x1 x2 : Int) (μ : amM) : At cr2 d 120 1 [] [0, x1, x2] μ = bnd (RD cr2 d 82 [2, x1, x2] μ) (fun v1 μ1 => some (v1, μ1)) := (At_eq cr2 d 120 1 _ _ _).trans rfl
set_option maxRecDepth 20000 in
theorem B121_0 (d : Nat) (x1 x2 : Int) (μ : amM) : At cr2 d 121 0 [] [0, x1, x2] μ = bnd (RD cr2 d 145 [x1, x2] μ) (fun v1 μ1 => (if v1 = 0 then bnd (RD cr2 d 141 [0, 1] μ1) (fun v2 μ2 => some (v2, μ2)) else At cr2 d 121 1 [] [0, x1, x2] μ1)) := (At_eq cr2 d 121 0 _ _ _).trans rfl
set_option maxRecDepth 20000 in
theorem B121_1 (d : Nat) (x1 x2 : Int) (μ : amM) : At cr2 d 121 1 [] [0, x1, x2] μ = bnd (RD cr2 d 83 [2, x1, x2] μ) (fun v1 μ1 => some (v1, μ1)) := (At_eq cr2 d 121 1 _ _ _).trans rfl
set_option maxRecDepth 20000 in
theorem B122_0 (d : Nat) (μ : amM) : At cr2 d 122 0 [] [0, 0, 0, 0, 0] μ = At cr2 d 122 1 [] [0, 0, (-1), 0, 0] μ := (At_eq cr2 d 122 0 _ _ _).trans rfl
set_option maxRecDepth 20000 in
theorem B122_1 (d : Nat) (x1 x2 x3 : Int) (μ : amM) : At cr2 d 122 1 [] [0, x1, x2, x3, 0] μ = (if x3 < 12 then bnd (RD cr2 d 83 [2, (w32 (x3.tdiv 3)), (x3.tmod 3)] μ) (fun v1 μ1 => (if x2 < v1 then At cr2 d 122 2 [] [0, x3, v1, x3, 0] μ1 else At cr2 d 122 2 [] [0, x1, x2, x3, 0] μ1)) else At cr2 d 122 3 [] [0, x1, 0, 0, 0] μ) := (At_eq cr2 d 122 1 _ _ _).trans rfl
set_option maxRecDepth 20000 in
theorem B122_2 (d : Nat) (x1 x2 x3 : Int) (μ : amM) : At cr2 d 122 2 [] [0, x1, x2, x3, 0] μ = At cr2 d 122 1 [] [0, x1, x2, (w32 (x3 + 1)), 0] μ := (At_eq cr2 d 122 2 _ _ _).trans rfl
set_option maxRecDepth 20000 in
theorem B122_3 (d : Nat) (x1 : Int) (μ : amM) : At cr2 d 122 3 [] [0, x1, 0, 0, 0] μ = some (x1, μ) := (At_eq cr2 d 122 3 _ _ _).trans rfl
set_option maxRecDepth 20000 in
theorem B123_0 (d : Nat) (μ : amM) : At cr2 d 123 0 [] [0, 0] μ = bnd (RD cr2 d 1 [52, 2] μ) (fun v1 μ1 => (if v1 = 0 then At cr2 d 123 2 [(μ1 52 2)] [0, 0] μ1 else At cr2 d 123 1 [] [0, v1] μ1)) := (At_eq cr2 d 123 0 _ _ _).trans rfl
set_option maxRecDepth 20000 in
theorem B123_1 (d : Nat) (x1 : Int) (μ : amM) : At cr2 d 123 1 [] [0, x1] μ = bnd (RD cr2 d 141 [0, x1] μ) (fun v1 μ1 => At cr2 d 123 2 [v1] [0, 0] μ1) := (At_eq cr2 d 123 1 _ _ _).trans rfl
set_option maxRecDepth 20000 in
theorem B123_2 (d : Nat) (s0 : Int) (μ : amM) : At cr2 d 123 2 [s0] [0, 0] μ = some (s0, μ) := (At_eq cr2 d 123 2 _ _ _).trans rfl
set_option maxRecDepth 20000 in
theorem B124_0 (d : Nat) (μ : amM) : At cr2 d 124 0 [] [0, 0, 0] μ = At cr2 d 124 1 [] [0, 0, 0] μ := (At_eq cr2 d 124 0 _ _ _).trans rfl
set_option maxRecDepth 20000 in
theorem B124_1 (d : Nat) (x1 x2 : Int) (μ : amM) : At cr2 d 124 1 [] [0, x1, x2] μ = (if x2 < (μ 2 10) then bnd (RD cr2 d 144 [0, x2] μ) (fun v1 μ1 => (if v1 = 0 then rd 5 64 μ1 x2 (fun v2 => bnd (RD cr2 d 45 [1, v2] μ1) (fun v3 μ2 => At cr2 d 124 2 [] [0, (w32 (x1 + v3)), x2] μ2)) else At cr2 d 124 2 [] [0, x1, x2] μ1)) else At cr2 d 124 3 [] [0, x1, 0] μ) := (At_eq cr2 d 124 1 _ _ _).trans rfl
set_option maxRecDepth 20000 in
theorem B124_2 (d : Nat) (x1 x2 : Int) (μ : amM) : At cr2 d 124 2 [] [0, x1, x2] μ = At cr2 d 124 1 [] [0, x1, (w32 (x2 + 1))] μ := (At_eq cr2 d 124 2 _ _ _).trans rfl
set_option maxRecDepth 20000 in
theorem B124_3 (d : Nat) (x1 : Int) (μ : amM) : At cr2 d 124 3 [] [0, x1, 0] μ = some (x1, μ) := (At_eq cr2 d 124 3 _ _ _).trans rfl
set_option maxRecDepth 20000 in
theorem B125_0 (d : Nat) (x1 : Int) (μ : amM) : At cr2 d 125 0 [] [0, x1, 0, 0, 0, 0, 0, 0, 0] μ = bnd (RD cr2 d 142 [x1, 0, 1] μ) (fun v1 μ1 => (if v1 = 0 then bnd (RD cr2 d 141 [0, 1] μ1) (fun v2 μ2 => some (v2, μ2)) else At cr2 d 125 1 [] [0, x1, 0, 0, 0, 0, 0, 0, 0] μ1)) := (At_eq cr2 d 125 0 _ _ _).trans rfl
set_option maxRecDepth 20000 in
theorem B125_1 (d : Nat) (x1 : Int) (μ : amM) : At cr2 d 125 1 [] [0, x1, 0, 0, 0, 0, 0, 0, 0] μ = bnd (RD cr2 d 79 [2] μ) (fun v1 μ1 => At cr2 d 125 2 [] [0, x1, v1, (-1), 0, 0, 0, 0, 0] μ1) := (At_eq cr2 d 125 1 _ _ _).trans rfl
set_option maxRecDepth 20000 in
theorem B125_2 (d : Nat) (x1 x2 x3 x4 x5 : Int) (μ : amM) : At cr2 d 125 2 [] [0, x1, x2, x3, x4, x5, 0, 0, 0] μ = (if x5 < (w32 ((w32 ((μ 2 10) * 4)) * 3)) then bnd (RD cr2 d 81 [2, (w32 (x5.tdiv 12)), ((w32 (x5.tdiv 3)).tmod 4), (x5.tmod 3), x2] μ) (fun v1 μ1 => (if v1 = 0 then At cr2 d 125 4 [] [0, x1, x2, x3, x4, x5, 0, 0, 0] μ1 else bnd (RD cr2 d 46 [1, (w32 (x5.tdiv 12)), ((w32 (x5.tdiv 3)).tmod 4), (x5.tmod 3)] μ1) (fun v2 μ2 => (if x3 = (-1) then At cr2 d 125 3 [] [0, x1, x2, 0, 0, x5, 0, 0, v2] μ2 else (if x4 < v2 then At cr2 d 125 3 [] [0, x1, x2, 0, 0, x5, 0, 0, v2] μ2 else At cr2 d 125 4 [] [0, x1, x2, x3, x4, x5, 0, 0, 0] μ2))))) else At cr2 d 125 5 [] [0, x1, 0, x3, x4, 0, 0, 0, 0] μ) := (At_eq cr2 d 125 2 _ _ _).trans rfl
set_option maxRecDepth 20000 in
theorem B125_3 (d : Nat) (x1 x2 x5 x8 : Int) (μ : amM) : At cr2 d 125 3 [] [0, x1, x2, 0, 0, x5, 0, 0, x8] μ = At cr2 d 125 4 [] [0, x1, x2, x5, x8, x5, 0, 0, 0] μ := (At_eq cr2 d 125 3 _ _ _).trans rfl
set_option maxRecDepth 20000 in
theorem B125_4 (d : Nat) (x1 x2 x3 x4 x5 : Int) (μ : amM) : At cr2 d 125 4 [] [0, x1, x2, x3, x4, x5, 0, 0, 0] μ = At cr2 d 125 2 [] [0, x1, x2, x3, x4, (w32 (x5 + 1)), 0, 0, 0] μ := (At_eq cr2 d 125 4 _ _ _).trans rfl
set_option maxRecDepth 20000 in
theorem B125_5 (d : Nat) (x1 x3 x4 : Int) (μ : amM) : At cr2 d 125 5 [] [0, x1, 0, x3, x4, 0, 0, 0, 0] μ = (if x3 = (-1) then bnd (RD cr2 d 141 [0, 2] μ) (fun v1 μ1 => some (v1, μ1)) else At cr2 d 125 6 [] [0, x1, 0, x3, x4, 0, 0, 0, 0] μ) := (At_eq cr2 d 125 5 _ _ _).trans rfl
set_option maxRecDepth 20000 in
theorem B125_6 (d : Nat) (x1 x3 x4 : Int) (μ : amM) : At cr2 d 125 6 [] [0, x1, 0, x3, x4, 0, 0, 0, 0] μ = (if x1 = 0 then At cr2 d 125 8 [x3] [0, 0, 0, 0, 0, 0, 0, 0, 0] μ else At cr2 d 125 7 [] [0, 0, 0, 0, x4, 0, 0, 0, 0] μ) := (At_eq cr2 d 125 6 _ _ _).trans rfl
set_option maxRecDepth 20000 in
theorem B125_7 (d : Nat) (x4 : Int) (μ : amM) : At cr2 d 125 7 [] [0, 0, 0, 0, x4, 0, 0, 0, 0] μ = At cr2 d 125 8 [x4] [0, 0, 0, 0, 0, 0, 0, 0, 0] μ := (At_eq cr2 d 125 7 _ _ _).trans rfl
set_option maxRecDepth 20000 in
theorem B125_8 (d : Nat) (s0 : Int) (μ : amM) : At cr2 d 125 8 [s0] [0, 0, 0, 0, 0, 0, 0, 0, 0] μ = some (s0, μ) := (At_eq cr2 d 125 8 _ _ _).trans rfl
set_option maxRecDepth 20000 in
theorem B126_0 (d : Nat) (x1 : Int) (μ : amM) : At cr2 d 126 0 [] [0, x1] μ = bnd (RD cr2 d 142 [x1, 1, 200] μ) (fun v1 μ1 => (if v1 = 0 then bnd (RD cr2 d 141 [0, 1] μ1) (fun v2 μ2 => some (v2, μ2)) else At cr2 d 126 1 [] [0, x1] μ1)) := (At_eq cr2 d 126 0 _ _ _).trans rfl
set_option maxRecDepth 20000 in
theorem B126_1 (d : Nat) (x1 : Int) (μ : amM) : At cr2 d 126 1 [] [0, x1] μ = (if 9999 < (w32 ((μ 1 6) + x1)) then bnd (RD cr2 d 141 [0, 3] μ) (fun v1 μ1 => some (v1, μ1)) else At cr2 d 126 2 [] [0, x1] μ) := (At_eq cr2 d 126 1 _ _ _).trans rfl
set_option maxRecDepth 20000 in
theorem B126_2 (d : Nat) (x1 : Int) (μ : amM) : At cr2 d 126 2 [] [0, x1] μ = bnd (RD cr2 d 48 [1, x1] μ) (fun v1 μ1 => some (v1, μ1)) := (At_eq cr2 d 126 2 _ _ _).trans rfl
set_option maxRecDepth 20000 in
theorem B127_0 (d : Nat) (x1 : Int) (μ : amM) : At cr2 d 127 0 [] [0, x1, 0] μ = wf 1 8 μ x1 (fun μ1 => some ((μ 1 8), μ1)) := (At_eq cr2 d 127 0 _ _ _).trans rfl
set_option maxRecDepth 20000 in
theorem B128_0 (d : Nat) (x1 x2 x3 : Int) (μ : amM) : At cr2 d 128 0 [] [0, x1, x2, x3] μ = bnd (RD cr2 d 143 [0, x1] μ) (fun v1 μ1 => (if v1 = 0 then At cr2 d 128 1 [] [0, 0, 0, 0] μ1 else bnd (RD cr2 d 142 [x2, 0, 3] μ1) (fun v2 μ2 => (if v2 = 0 then At cr2 d 128 1 [] [0, 0, 0, 0] μ2 else At cr2 d 128 2 [] [0, x1, x2, x3] μ2)))) := (At_eq cr2 d 128 0 _ _ _).trans rfl
set_option maxRecDepth 20000 in
theorem B128_1 (d : Nat) (μ : amM) : At cr2 d 128 1 [] [0, 0, 0, 0] μ = bnd (RD cr2 d 141 [0, 1] μ) (fun v1 μ1 => some (v1, μ1)) := (At_eq cr2 d 128 1 _ _ _).trans rfl
set_option maxRecDepth 20000 in
theorem B128_2 (d : Nat) (x1 x2 x3 : Int) (μ : amM) : At cr2 d 128 2 [] [0, x1, x2, x3] μ = bnd (RD cr2 d 144 [0, x1] μ) (fun v1 μ1 => (if v1 = 0 then At cr2 d 128 3 [] [0, x1, x2, x3] μ1 else bnd (RD cr2 d 141 [0, 2] μ1) (fun v2 μ2 => some (v2, μ2)))) := (At_eq cr2 d 128 2 _ _ _).trans rfl
set_option maxRecDepth 20000 in
theorem B128_3 (d : Nat) (x1 x2 x3 : Int) (μ : amM) : At cr2 d 128 3 [] [0, x1, x2, x3] μ = bnd (RD cr2 d 86 [59, 2, x1, x2, x3] μ) (fun v1 μ1 => some (v1, μ1)) := (At_eq cr2 d 128 3 _ _ _).trans rfl
set_option maxRecDepth 20000 in
theorem B129_0 (d : Nat) (x1 : Int) (μ : amM) : At cr2 d 129 0 [] [0, x1] μ = bnd (RD cr2 d 142 [x1, 0, (w32 ((μ 59 1) - 1))] μ) (fun v1 μ1 => (if v1 = 0 then At cr2 d 129 1 [] [0, 0] μ1 else rd 60 40 μ1 x1 (fun v2 => At cr2 d 129 2 [v2] [0, 0] μ1))) := (At_eq cr2 d 129 0 _ _ _).trans rfl
set_option maxRecDepth 20000 in
theorem B129_1 (d : Nat) (μ : amM) : At cr2 d 129 1 [] [0, 0] μ = bnd (RD cr2 d 141 [0, 2] μ) (fun v1 μ1 => At cr2 d 129 2 [v1] [0, 0] μ1) := (At_eq cr2 d 129 1 _ _ _).trans rfl
set_option maxRecDepth 20000 in
theorem B129_2 (d : Nat) (s0 : Int) (μ : amM) : At cr2 d 129 2 [s0] [0, 0] μ = some (s0, μ) := (At_eq cr2 d 129 2 _ _ _).trans rfl
set_option maxRecDepth 20000 in
theorem B130_0 (d : Nat) (x1 x2 x3 : Int) (μ : amM) : At cr2 d 130 0 [] [0, x1, x2, x3] μ = bnd (RD cr2 d 147 [x1] μ) (fun v1 μ1 => (if v1 = 0 then At cr2 d 130 1 [] [0, 0, 0, 0] μ1 else (if x2 = 0 then At cr2 d 130 2 [] [0, x1, x2, x3] μ1 else (if x2 = 8 then At cr2 d 130 2 [] [0, x1, x2, x3] μ1 else (if x2 = 16 then At cr2 d 130 2 [] [0, x1, x2, x3] μ1 else (if x2 = 32 then At cr2 d 130 2 [] [0, x1, x2, x3] μ1 else At cr2 d 130 1 [] [0, 0, 0, 0] μ1)))))) := (At_eq cr2 d 130 0 _ _ _).trans rfl
set_option maxRecDepth 20000 in
theorem B130_1 (d : Nat) (μ : amM) : At cr2 d 130 1 [] [0, 0, 0, 0] μ = bnd (RD cr2 d 141 [0, 1] μ) (fun v1 μ1 => some (v1, μ1)) := (At_eq cr2 d 130 1 _ _ _).trans rfl
set_option maxRecDepth 20000 in
theorem B130_2 (d : Nat) (x1 x2 x3 : Int) (μ : amM) : At cr2 d 130 2 [] [0, x1, x2, x3] μ = (if x2 = 0 then At cr2 d 130 3 [] [0, x1, x2, x3] μ else (if x3 < 0 then bnd (RD cr2 d 141 [0, 3] μ) (fun v1 μ1 => some (v1, μ1)) else At cr2 d 130 3 [] [0, x1, x2, x3] μ)) := (At_eq cr2 d 130 2 _ _ _).trans rfl
set_option maxRecDepth 20000 in
theorem B130_3 (d : Nat) (x1 x2 x3 : Int) (μ : amM) : At cr2 d 130 3 [] [0, x1, x2, x3] μ = (if x2 = 0 then At cr2 d 130 4 [] [0, x1, x2, x3] μ else (if 64 < x3 then bnd (RD cr2 d 141 [0, 1] μ) (fun v1 μ1 => some (v1, μ1)) else At cr2 d 130 4 [] [0, x1, x2, x3] μ)) := (At_eq cr2 d 130 3 _ _ _).trans rfl
set_option maxRecDepth 20000 in
theorem B130_4 (d : Nat) (x1 x2 x3 : Int) (μ : amM) : At cr2 d 130 4 [] [0, x1, x2, x3] μ = amQld cr2 24 μ 61 x1 (fun v1 => (if x2 = 0 then At cr2 d 130 6 [0, x2, v1] [0, 0, 0, 0] μ else At cr2 d 130 5 [x2, v1] [0, 0, 0, x3] μ)) := (At_eq cr2 d 130 4 _ _ _).trans rfl
set_option maxRecDepth 20000 in
theorem B130_5 (d : Nat) (s0 s1 x3 : Int) (μ : amM) : At cr2 d 130 5 [s0, s1] [0, 0, 0, x3] μ = At cr2 d 130 6 [x3, s0, s1] [0, 0, 0, 0] μ := (At_eq cr2 d 130 5 _ _ _).trans rfl
set_option maxRecDepth 20000 in
theorem B130_6 (d : Nat) (s0 s1 s2 : Int) (μ : amM) : At cr2 d 130 6 [s0, s1, s2] [0, 0, 0, 0] μ = if amTg s2 = 10 then bnd (RD cr2 d 36 [s2, s1, s0] μ) (fun _ μ1 => some (1, μ1)) else none := (At_eq cr2 d 130 6 _ _ _).trans rfl
set_option maxRecDepth 20000 in
theorem B131_0 (d : Nat) (x1 x2 x3 : Int) (μ : amM) : At cr2 d 131 0 [] [0, x1, x2, x3] μ = bnd (RD cr2 d 147 [x1] μ) (fun v1 μ1 => (if v1 = 0 then bnd (RD cr2 d 141 [0, 1] μ1) (fun v2 μ2 => some (v2, μ2)) else At cr2 d 131 1 [] [0, x1, x2, x3] μ1)) := (At_eq cr2 d 131 0 _ _ _).trans rfl
set_option maxRecDepth 20000 in
theorem B131_1 (d : Nat) (x1 x2 x3 : Int) (μ : amM) : At cr2 d 131 1 [] [0, x1, x2, x3] μ = amQld cr2 24 μ 61 x1 (fun v1 => if amTg v1 = 10 then bnd (RD cr2 d 35 [v1] μ) (fun v2 μ1 => (if v2 = 0 then At cr2 d 131 2 [] [0, x1, x2, x3] μ1 else bnd (RD cr2 d 141 [0, 2] μ1) (fun v3 μ2 => some (v3, μ2)))) else none) := (At_eq cr2 d 131 1 _ _ _).trans rfl
set_option maxRecDepth 20000 in
theorem B131_2 (d : Nat) (x1 x2 x3 : Int) (μ : amM) : At cr2 d 131 2 [] [0, x1, x2, x3] μ = amQld cr2 24 μ 61 x1 (fun v1 => amGf cr2 μ 10 2 v1 (fun v2 => bnd (RD cr2 d 142 [x2, 0, (w32 (v2 - 1))] μ) (fun v3 μ1 => (if v3 = 0 then bnd (RD cr2 d 141 [0, 1] μ1) (fun v4 μ2 => some (v4, μ2)) else At cr2 d 131 3 [] [0, x1, x2, x3] μ1)))) := (At_eq cr2 d 131 2 _ _ _).trans rfl
set_option maxRecDepth 20000 in
theorem B131_3 (d : Nat) (x1 x2 x3 : Int) (μ : amM) : At cr2 d 131 3 [] [0, x1, x2, x3] μ = amQld cr2 24 μ 61 x1 (fun v1 => if amTg v1 = 10 then bnd (RD cr2 d 37 [v1, x2, x3] μ) (fun _ μ1 => some (1, μ1)) else none) := (At_eq cr2 d 131 3 _ _ _).trans rfl
set_option maxRecDepth 20000 in
theorem B132_0 (d : Nat) (x1 x2 x3 x4 x5 : Int) (μ : amM) : At cr2 d 132 0 [] [0, x1, x2, x3, x4, x5, 0, 0] μ = bnd (RD cr2 d 147 [x1] μ) (fun v1 μ1 => (if v1 = 0 then At cr2 d 132 1 [] [0, 0, 0, 0, 0, 0, 0, 0] μ1 else bnd (RD cr2 d 147 [x3] μ1) (fun v2 μ2 => (if v2 = 0 then At cr2 d 132 1 [] [0, 0, 0, 0, 0, 0, 0, 0] μ2 else At cr2 d 132 2 [] [0, x1, x2, x3, x4, x5, 0, 0] μ2)))) := (At_eq cr2 d 132 0 _ _ _).trans rfl
set_option maxRecDepth 20000 in
theorem B132_1 (d : Nat) (μ : amM) : At cr2 d 132 1 [] [0, 0, 0, 0, 0, 0, 0, 0] μ = bnd (RD cr2 d 141 [0, 1] μ) (fun v1 μ1 => some (v1, μ1)) := (At_eq cr2 d 132 1 _ _ _).trans rfl
set_option maxRecDepth 20000 in
theorem B132_2 (d : Nat) (x1 x2 x3 x4 x5 : Int) (μ : amM) : At cr2 d 132 2 [] [0, x1, x2, x3, x4, x5, 0, 0] μ = amQld cr2 24 μ 61 x1 (fun v1 => amQld cr2 24 μ 61 x3 (fun v2 => if amTg v1 = 10 then bnd (RD cr2 d 35 [v1] μ) (fun v3 μ1 => (if v3 = 0 then if amTg v2 = 10 then bnd (RD cr2 d 35 [v2] μ1) (fun v4 μ2 => (if v4 = 0 then At cr2 d 132 4 [] [0, 0, x2, 0, x4, x5, v1, v2] μ2 else At cr2 d 132 3 [] [0, 0, 0, 0, 0, 0, 0, 0] μ2)) else none else At cr2 d 132 3 [] [0, 0, 0, 0, 0, 0, 0, 0] μ1)) else none)) := (At_eq cr2 d 132 2 _ _ _).trans rfl
set_option maxRecDepth 20000 in
theorem B132_3 (d : Nat) (μ : amM) : At cr2 d 132 3 [] [0, 0, 0, 0, 0, 0, 0, 0] μ = bnd (RD cr2 d 141 [0, 2] μ) (fun v1 μ1 => some (v1, μ1)) := (At_eq cr2 d 132 3 _ _ _).trans rfl
set_option maxRecDepth 20000 in
theorem B132_4 (d : Nat) (x2 x4 x5 x6 x7 : Int) (μ : amM) : At cr2 d 132 4 [] [0, 0, x2, 0, x4, x5, x6, x7] μ = amGf cr2 μ 10 1 x6 (fun v1 => amGf cr2 μ 10 1 x7 (fun v2 => (if v1 = v2 then At cr2 d 132 5 [] [0, 0, x2, 0, x4, x5, x6, x7] μ else bnd (RD cr2 d 141 [0, 5] μ) (fun v3 μ1 => some (v3, μ1))))) := (At_eq cr2 d 132 4 _ _ _).trans rfl
set_option maxRecDepth 20000 in
theorem B132_5 (d : Nat) (x2 x4 x5 x6 x7 : Int) (μ : amM) : At cr2 d 132 5 [] [0, 0, x2, 0, x4, x5, x6, x7] μ = if amTg x6 = 10 then bnd (RD cr2 d 38 [x6, x2, x5] μ) (fun v1 μ1 => (if v1 = 0 then At cr2 d 132 6 [] [0, 0, 0, 0, 0, 0, 0, 0] μ1 else if amTg x7 = 10 then bnd (RD cr2 d 38 [x7, x4, x5] μ1) (fun v2 μ2 => (if v2 = 0 then At cr2 d 132 6 [] [0, 0, 0, 0, 0, 0, 0, 0] μ2 else At cr2 d 132 7 [] [0, 0, x2, 0, x4, x5, x6, x7] μ2)) else none)) else none := (At_eq cr2 d 132 5 _ _ _).trans rfl
set_option maxRecDepth 20000 in
theorem B132_6 (d : Nat) (μ : amM) : At cr2 d 132 6 [] [0, 0, 0, 0, 0, 0, 0, 0] μ = bnd (RD cr2 d 141 [0, 1] μ) (fun v1 μ1 => some (v1, μ1)) := (At_eq cr2 d 132 6 _ _ _).trans rfl
set_option maxRecDepth 20000 in
theorem B132_7 (d : Nat) (x2 x4 x5 x6 x7 : Int) (μ : amM) : At cr2 d 132 7 [] [0, 0, x2, 0, x4, x5, x6, x7] μ = amGf cr2 μ 10 0 x6 (fun v1 => amGf cr2 μ 10 0 x7 (fun v2 => amCpy μ v1 x2 v2 x4 x5 (fun μ1 => some (x5, μ1)))) := (At_eq cr2 d 132 7 _ _ _).trans rfl
set_option maxRecDepth 20000 in
theorem B133_0 (d : Nat) (x1 : Int) (μ : amM) : At cr2 d 133 0 [] [0, x1, 0, 0] μ = bnd (RD cr2 d 147 [x1] μ) (fun v1 μ1 => (if v1 = 0 then bnd (RD cr2 d 141 [0, 1] μ1) (fun v2 μ2 => some (v2, μ2)) else At cr2 d 133 1 [] [0, x1, 0, 0] μ1)) := (At_eq cr2 d 133 0 _ _ _).trans rfl
set_option maxRecDepth 20000 in
theorem B133_1 (d : Nat) (x1 : Int) (μ : amM) : At cr2 d 133 1 [] [0, x1, 0, 0] μ = amQld cr2 24 μ 61 x1 (fun v1 => if amTg v1 = 10 then bnd (RD cr2 d 35 [v1] μ) (fun v2 μ1 => (if v2 = 0 then At cr2 d 133 2 [] [0, 0, v1, 0] μ1 else bnd (RD cr2 d 141 [0, 2] μ1) (fun v3 μ2 => some (v3, μ2)))) else none) := (At_eq cr2 d 133 1 _ _ _).trans rfl
set_option maxRecDepth 20000 in
theorem B133_2 (d : Nat) (x2 : Int) (μ : amM) : At cr2 d 133 2 [] [0, 0, x2, 0] μ = At cr2 d 133 3 [] [0, 0, x2, 0] μ := (At_eq cr2 d 133 2 _ _ _).trans rfl
set_option maxRecDepth 20000 in
theorem B133_3 (d : Nat) (x2 x3 : Int) (μ : amM) : At cr2 d 133 3 [] [0, 0, x2, x3] μ = amGf cr2 μ 10 2 x2 (fun v1 => (if x3 < v1 then amGf cr2 μ 10 0 x2 (fun v2 => amAld μ v2 x3 (fun v3 => bnd (RD cr2 d 148 [0, x3, 0, v3] μ) (fun v4 μ1 => (if v4 = 0 then At cr2 d 133 4 [] [0, 0, x2, x3] μ1 else some (x3, μ1))))) else At cr2 d 133 5 [] [0, 0, x2, 0] μ)) := (At_eq cr2 d 133 3 _ _ _).trans rfl
set_option maxRecDepth 20000 in
theorem B133_4 (d : Nat) (x2 x3 : Int) (μ : amM) : At cr2 d 133 4 [] [0, 0, x2, x3] μ = amGf cr2 μ 10 0 x2 (fun v1 => amAld μ v1 x3 (fun v2 => bnd (RD cr2 d 6 [v2] μ) (fun v3 μ1 => bnd (RD cr2 d 67 [2, x3, 0, 0, v3] μ1) (fun _ μ2 => At cr2 d 133 3 [] [0, 0, x2, (w32 (x3 + 1))] μ2)))) := (At_eq cr2 d 133 4 _ _ _).trans rfl
set_option maxRecDepth 20000 in
theorem B133_5 (d : Nat) (x2 : Int) (μ : amM) : At cr2 d 133 5 [] [0, 0, x2, 0] μ = amGf cr2 μ 10 2 x2 (fun v1 => some (v1, μ)) := (At_eq cr2 d 133 5 _ _ _).trans rfl
set_option maxRecDepth 20000 in
theorem B134_0 (d : Nat) (x1 : Int) (μ : amM) : At cr2 d 134 0 [] [0, x1, 0, 0, 0] μ = bnd (RD cr2 d 147 [x1] μ) (fun v1 μ1 => (if v1 = 0 then bnd (RD cr2 d 141 [0, 1] μ1) (fun v2 μ2 => some (v2, μ2)) else At cr2 d 134 1 [] [0, x1, 0, 0, 0] μ1)) := (At_eq cr2 d 134 0 _ _ _).trans rfl
set_option maxRecDepth 20000 in
theorem B134_1 (d : Nat) (x1 : Int) (μ : amM) : At cr2 d 134 1 [] [0, x1, 0, 0, 0] μ = amQld cr2 24 μ 61 x1 (fun v1 => if amTg v1 = 10 then bnd (RD cr2 d 35 [v1] μ) (fun v2 μ1 => (if v2 = 0 then At cr2 d 134 2 [] [0, 0, v1, 0, 0] μ1 else bnd (RD cr2 d 141 [0, 2] μ1) (fun v3 μ2 => some (v3, μ2)))) else none) := (At_eq cr2 d 134 1 _ _ _).trans rfl
set_option maxRecDepth 20000 in
theorem B134_2 (d : Nat) (x2 : Int) (μ : amM) : At cr2 d 134 2 [] [0, 0, x2, 0, 0] μ = At cr2 d 134 3 [] [0, 0, x2, (μ 2 10), 0] μ := (At_eq cr2 d 134 2 _ _ _).trans rfl
set_option maxRecDepth 20000 in
theorem B134_3 (d : Nat) (x2 x3 x4 : Int) (μ : amM) : At cr2 d 134 3 [] [0, 0, x2, x3, x4] μ = amGf cr2 μ 10 2 x2 (fun v1 => (if x4 < v1 then (if x4 < x3 then amGf cr2 μ 10 0 x2 (fun v2 => amAld μ v2 x4 (fun v3 => bnd (RD cr2 d 69 [2, x4, v3] μ) (fun v4 μ1 => (if v4 = 0 then some (x4, μ1) else At cr2 d 134 4 [] [0, 0, x2, x3, x4] μ1)))) else At cr2 d 134 5 [] [0, 0, x2, x3, 0] μ) else At cr2 d 134 5 [] [0, 0, x2, x3, 0] μ)) := (At_eq cr2 d 134 3 _ _ _).trans rfl
set_option maxRecDepth 20000 in
theorem B134_4 (d : Nat) (x2 x3 x4 : Int) (μ : amM) : At cr2 d 134 4 [] [0, 0, x2, x3, x4] μ = At cr2 d 134 3 [] [0, 0, x2, x3, (w32 (x4 + 1))] μ := (At_eq cr2 d 134 4 _ _ _).trans rfl
set_option maxRecDepth 20000 in
theorem B134_5 (d : Nat) (x2 x3 : Int) (μ : amM) : At cr2 d 134 5 [] [0, 0, x2, x3, 0] μ = amGf cr2 μ 10 2 x2 (fun v1 => (if v1 = x3 then At cr2 d 134 7 [(-1)] [0, 0, 0, 0, 0] μ else At cr2 d 134 6 [] [0, 0, x2, x3, 0] μ)) := (At_eq cr2 d 134 5 _ _ _).trans rfl
set_option maxRecDepth 20000 in
theorem B134_6 (d : Nat) (x2 x3 : Int) (μ : amM) : At cr2 d 134 6 [] [0, 0, x2, x3, 0] μ = amGf cr2 μ 10 2 x2 (fun v1 => At cr2 d 134 7 [(jmin v1 x3)] [0, 0, 0, 0, 0] μ) := (At_eq cr2 d 134 6 _ _ _).trans rfl
set_option maxRecDepth 20000 in
theorem B134_7 (d : Nat) (s0 : Int) (μ : amM) : At cr2 d 134 7 [s0] [0, 0, 0, 0, 0] μ = some (s0, μ) := (At_eq cr2 d 134 7 _ _ _).trans rfl
set_option maxRecDepth 20000 in
theorem B135_0 (d : Nat) (μ : amM) : At cr2 d 135 0 [] [0] μ = bnd (RD cr2 d 40 [19, 1] μ) (fun _ μ1 => wf 0 10 μ1 (w32 ((μ1 0 10) + 1)) (fun μ2 => some ((μ2 0 10), μ2))) := (At_eq cr2 d 135 0 _ _ _).trans rfl
set_option maxRecDepth 20000 in
theorem B136_0 (d : Nat) (μ : amM) : At cr2 d 136 0 [] [0] μ = (if (μ 0 10) = 0 then bnd (RD cr2 d 141 [0, 2] μ) (fun v1 μ1 => some (v1, μ1)) else At cr2 d 136 1 [] [0] μ) := (At_eq cr2 d 136 0 _ _ _).trans rfl
set_option maxRecDepth 20000 in
theorem B136_1 (d : Nat) (μ : amM) : At cr2 d 136 1 [] [0] μ = bnd (RD cr2 d 40 [1, 19] μ) (fun _ μ1 => some ((μ1 1 6), μ1)) := (At_eq cr2 d 136 1 _ _ _).trans rfl
set_option maxRecDepth 20000 in
theorem B137_0 (d : Nat) (x1 : Int) (μ : amM) : At cr2 d 137 0 [] [0, x1] μ = (if (μ 1 5) < 20 then At cr2 d 137 1 [] [0, x1] μ else bnd (RD cr2 d 141 [0, 4] μ) (fun v1 μ1 => some (v1, μ1))) := (At_eq cr2 d 137 0 _ _ _).trans rfl
set_option maxRecDepth 20000 in
theorem B137_1 (d : Nat) (x1 : Int) (μ : amM) : At cr2 d 137 1 [] [0, x1] μ = wr 12 20 μ (μ 1 5) x1 (fun μ1 => wf 1 5 μ1 (w32 ((μ1 1 5) + 1)) (fun μ2 => some ((μ2 1 5), μ2))) := (At_eq cr2 d 137 1 _ _ _).trans rfl
set_option maxRecDepth 20000 in
theorem B138_0 (d : Nat) (μ : amM) : At cr2 d 138 0 [] [0, 0, 0] μ = wf 1 5 μ 0 (fun μ1 => At cr2 d 138 1 [] [0, (μ 1 5), 0] μ1) := (At_eq cr2 d 138 0 _ _ _).trans rfl
set_option maxRecDepth 20000 in
theorem B138_1 (d : Nat) (x1 x2 : Int) (μ : amM) : At cr2 d 138 1 [] [0, x1, x2] μ = (if x2 < x1 then (if x2 < (μ 2 10) then bnd (RD cr2 d 75 [2, x2] μ) (fun v1 μ1 => rd 12 20 μ1 x2 (fun v2 => (if v1 = v2 then At cr2 d 138 3 [] [0, x1, x2] μ1 else At cr2 d 138 2 [] [0, 0, x2] μ1))) else At cr2 d 138 2 [] [0, 0, x2] μ) else At cr2 d 138 4 [] [0, 0, 0] μ) := (At_eq cr2 d 138 1 _ _ _).trans rfl
set_option maxRecDepth 20000 in
theorem B138_2 (d : Nat) (x2 : Int) (μ : amM) : At cr2 d 138 2 [] [0, 0, x2] μ = some ((w32 (1 + x2)), μ) := (At_eq cr2 d 138 2 _ _ _).trans rfl
set_option maxRecDepth 20000 in
theorem B138_3 (d : Nat) (x1 x2 : Int) (μ : amM) : At cr2 d 138 3 [] [0, x1, x2] μ = At cr2 d 138 1 [] [0, x1, (w32 (x2 + 1))] μ := (At_eq cr2 d 138 3 _ _ _).trans rfl
set_option maxRecDepth 20000 in
theorem B138_4 (d : Nat) (μ : amM) : At cr2 d 138 4 [] [0, 0, 0] μ = some (0, μ) := (At_eq cr2 d 138 4 _ _ _).trans rfl
set_option maxRecDepth 20000 in
theorem B139_0 (d : Nat) (x1 : Int) (μ : amM) : At cr2 d 139 0 [] [0, x1] μ = (if x1 = 0 then At cr2 d 139 1 [] [0, 0] μ else if x1 = 1 then At cr2 d 139 2 [] [0, 0] μ else if x1 = 2 then At cr2 d 139 3 [] [0, 0] μ else if x1 = 3 then At cr2 d 139 4 [] [0, 0] μ else if x1 = 4 then At cr2 d 139 5 [] [0, 0] μ else if x1 = 5 then At cr2 d 139 6 [] [0, 0] μ else if x1 = 6 then At cr2 d 139 7 [] [0, 0] μ else if x1 = 7 then At cr2 d 139 8 [] [0, 0] μ else if x1 = 8 then At cr2 d 139 9 [] [0, 0] μ else if x1 = 9 then At cr2 d 139 10 [] [0, 0] μ else if x1 = 10 then At cr2 d 139 11 [] [0, 0] μ else if x1 = 11 then At cr2 d 139 12 [] [0, 0] μ else At cr2 d 139 13 [] [0, 0] μ) := (At_eq cr2 d 139 0 _ _ _).trans rfl
set_option maxRecDepth 20000 in
theorem B139_1 (d : Nat) (μ : amM) : At cr2 d 139 1 [] [0, 0] μ = some ((μ 2 7), μ) := (At_eq cr2 d 139 1 _ _ _).trans rfl
set_option maxRecDepth 20000 in
theorem B139_2 (d : Nat) (μ : amM) : At cr2 d 139 2 [] [0, 0] μ = some ((μ 2 8), μ) := (At_eq cr2 d 139 2 _ _ _).trans rfl
set_option maxRecDepth 20000 in
theorem B139_3 (d : Nat) (μ : amM) : At cr2 d 139 3 [] [0, 0] μ = some ((μ 2 9), μ) := (At_eq cr2 d 139 3 _ _ _).trans rfl
set_option maxRecDepth 20000 in
theorem B139_4 (d : Nat) (μ : amM) : At cr2 d 139 4 [] [0, 0] μ = some ((μ 2 11), μ) := (At_eq cr2 d 139 4 _ _ _).trans rfl
set_option maxRecDepth 20000 in
theorem B139_5 (d : Nat) (μ : amM) : At cr2 d 139 5 [] [0, 0] μ = some ((μ 2 12), μ) := (At_eq cr2 d 139 5 _ _ _).trans rfl
set_option maxRecDepth 20000 in
theorem B139_6 (d : Nat) (μ : amM) : At cr2 d 139 6 [] [0, 0] μ = bnd (RD cr2 d 68 [2] μ) (fun v1 μ1 => some (v1, μ1)) := (At_eq cr2 d 139 6 _ _ _).trans rfl
set_option maxRecDepth 20000 in
theorem B139_7 (d : Nat) (μ : amM) : At cr2 d 139 7 [] [0, 0] μ = some ((μ 1 6), μ) := (At_eq cr2 d 139 7 _ _ _).trans rfl
set_option maxRecDepth 20000 in
theorem B139_8 (d : Nat) (μ : amM) : At cr2 d 139 8 [] [0, 0] μ = some ((μ 1 7), μ) := (At_eq cr2 d 139 8 _ _ _).trans rfl
set_option maxRecDepth 20000 in
theorem B139_9 (d : Nat) (μ : amM) : At cr2 d 139 9 [] [0, 0] μ = some ((μ 1 4), μ) := (At_eq cr2 d 139 9 _ _ _).trans rfl
set_option maxRecDepth 20000 in
theorem B139_10 (d : Nat) (μ : amM) : At cr2 d 139 10 [] [0, 0] μ = some ((μ 1 5), μ) := (At_eq cr2 d 139 10 _ _ _).trans rfl
set_option maxRecDepth 20000 in
theorem B139_11 (d : Nat) (μ : amM) : At cr2 d 139 11 [] [0, 0] μ = some ((μ 59 1), μ) := (At_eq cr2 d 139 11 _ _ _).trans rfl
set_option maxRecDepth 20000 in
theorem B139_12 (d : Nat) (μ : amM) : At cr2 d 139 12 [] [0, 0] μ = some ((μ 1 8), μ) := (At_eq cr2 d 139 12 _ _ _).trans rfl
set_option maxRecDepth 20000 in
theorem B139_13 (d : Nat) (μ : amM) : At cr2 d 139 13 [] [0, 0] μ = bnd (RD cr2 d 141 [0, 1] μ) (fun v1 μ1 => some (v1, μ1)) := (At_eq cr2 d 139 13 _ _ _).trans rfl
set_option maxRecDepth 20000 in
theorem B140_0 (d : Nat) (x1 : Int) (μ : amM) : At cr2 d 140 0 [] [0, x1] μ = bnd (RD cr2 d 142 [x1, 1, 5] μ) (fun v1 μ1 => (if v1 = 0 then At cr2 d 140 1 [] [0, 0] μ1 else rd 62 6 μ1 x1 (fun v2 => At cr2 d 140 2 [v2] [0, 0] μ1))) := (At_eq cr2 d 140 0 _ _ _).trans rfl
set_option maxRecDepth 20000 in
theorem B140_1 (d : Nat) (μ : amM) : At cr2 d 140 1 [] [0, 0] μ = bnd (RD cr2 d 141 [0, 1] μ) (fun v1 μ1 => At cr2 d 140 2 [v1] [0, 0] μ1) := (At_eq cr2 d 140 1 _ _ _).trans rfl
set_option maxRecDepth 20000 in
theorem B140_2 (d : Nat) (s0 : Int) (μ : amM) : At cr2 d 140 2 [s0] [0, 0] μ = some (s0, μ) := (At_eq cr2 d 140 2 _ _ _).trans rfl
set_option maxRecDepth 20000 in
theorem B141_0 (d : Nat) (x1 : Int) (μ : amM) : At cr2 d 141 0 [] [0, x1] μ = rd 62 6 μ x1 (fun v1 => wr 62 6 μ x1 (w32 (v1 + 1)) (fun μ1 => some ((w32 ((-1000000000) - x1)), μ1))) := (At_eq cr2 d 141 0 _ _ _).trans rfl
set_option maxRecDepth 20000 in
theorem B142_0 (d : Nat) (x0 x1 x2 : Int) (μ : amM) : At cr2 d 142 0 [] [x0, x1, x2] μ = (if x0 < x1 then At cr2 d 142 1 [] [0, 0, 0] μ else (if x2 < x0 then At cr2 d 142 1 [] [0, 0, 0] μ else At cr2 d 142 2 [1] [0, 0, 0] μ)) := (At_eq cr2 d 142 0 _ _ _).trans rfl
set_option maxRecDepth 20000 in
theorem B142_1 (d : Nat) (μ : amM) : At cr2 d 142 1 [] [0, 0, 0] μ = At cr2 d 142 2 [0] [0, 0, 0] μ := (At_eq cr2 d 142 1 _ _ _).trans rfl
set_option maxRecDepth 20000 in
theorem B142_2 (d : Nat) (s0 : Int) (μ : amM) : At cr2 d 142 2 [s0] [0, 0, 0] μ = rb s0 μ := (At_eq cr2 d 142 2 _ _ _).trans rfl
set_option maxRecDepth 20000 in
theorem B143_0 (d : Nat) (x1 : Int) (μ : amM) : At cr2 d 143 0 [] [0, x1] μ = bnd (RD cr2 d 142 [x1, 0, (w32 ((μ 2 10) - 1))] μ) (fun v1 μ1 => rb v1 μ1) := (At_eq cr2 d 143 0 _ _ _).trans rfl
set_option maxRecDepth 20000 in
theorem B144_0 (d : Nat) (x1 : Int) (μ : amM) : At cr2 d 144 0 [] [0, x1] μ = rd 3 64 μ x1 (fun v1 => (if v1 = (-1) then At cr2 d 144 2 [1] [0, 0] μ else At cr2 d 144 1 [] [0, 0] μ)) := (At_eq cr2 d 144 0 _ _ _).trans rfl
set_option maxRecDepth 20000 in
theorem B144_1 (d : Nat) (μ : amM) : At cr2 d 144 1 [] [0, 0] μ = At cr2 d 144 2 [0] [0, 0] μ := (At_eq cr2 d 144 1 _ _ _).trans rfl
set_option maxRecDepth 20000 in
theorem B144_2 (d : Nat) (s0 : Int) (μ : amM) : At cr2 d 144 2 [s0] [0, 0] μ = rb s0 μ := (At_eq cr2 d 144 2 _ _ _).trans rfl
set_option maxRecDepth 20000 in
theorem B145_0 (d : Nat) (x0 x1 : Int) (μ : amM) : At cr2 d 145 0 [] [x0, x1] μ = bnd (RD cr2 d 142 [x0, 0, 3] μ) (fun v1 μ1 => (if v1 = 0 then At cr2 d 145 1 [] [0, 0] μ1 else bnd (RD cr2 d 142 [x1, 0, 2] μ1) (fun v2 μ2 => (if v2 = 0 then At cr2 d 145 1 [] [0, 0] μ2 else At cr2 d 145 2 [1] [0, 0] μ2)))) := (At_eq cr2 d 145 0 _ _ _).trans rfl
set_option maxRecDepth 20000 in
theorem B145_1 (d : Nat) (μ : amM) : At cr2 d 145 1 [] [0, 0] μ = At cr2 d 145 2 [0] [0, 0] μ := (At_eq cr2 d 145 1 _ _ _).trans rfl
set_option maxRecDepth 20000 in
theorem B145_2 (d : Nat) (s0 : Int) (μ : amM) : At cr2 d 145 2 [s0] [0, 0] μ = rb s0 μ := (At_eq cr2 d 145 2 _ _ _).trans rfl
set_option maxRecDepth 20000 in
theorem B146_0 (d : Nat) (x0 : Int) (μ : amM) : At cr2 d 146 0 [] [x0] μ = bnd (RD cr2 d 142 [x0, 0, 69] μ) (fun v1 μ1 => rb v1 μ1) := (At_eq cr2 d 146 0 _ _ _).trans rfl
set_option maxRecDepth 20000 in
theorem B147_0 (d : Nat) (x0 : Int) (μ : amM) : At cr2 d 147 0 [] [x0] μ = bnd (RD cr2 d 142 [x0, 0, 3] μ) (fun v1 μ1 => rb v1 μ1) := (At_eq cr2 d 147 0 _ _ _).trans rfl
set_option maxRecDepth 20000 in
theorem B148_0 (d : Nat) (x1 x2 x3 : Int) (μ : amM) : At cr2 d 148 0 [] [0, x1, x2, x3, 0] μ = bnd (RD cr2 d 143 [0, x1] μ) (fun v1 μ1 => (if v1 = 0 then At cr2 d 148 1 [] [0, 0, 0, 0, 0] μ1 else bnd (RD cr2 d 146 [x2] μ1) (fun v2 μ2 => (if v2 = 0 then At cr2 d 148 1 [] [0, 0, 0, 0, 0] μ2 else bnd (RD cr2 d 142 [x3, 0, 80] μ2) (fun v3 μ3 => (if v3 = 0 then At cr2 d 148 1 [] [0, 0, 0, 0, 0] μ3 else At cr2 d 148 2 [] [0, x1, x2, x3, 0] μ3)))))) := (At_eq cr2 d 148 0 _ _ _).trans rfl
set_option maxRecDepth 20000 in
theorem B148_1 (d : Nat) (μ : amM) : At cr2 d 148 1 [] [0, 0, 0, 0, 0] μ = some (1, μ) := (At_eq cr2 d 148 1 _ _ _).trans rfl
set_option maxRecDepth 20000 in
theorem B148_2 (d : Nat) (x1 x2 x3 : Int) (μ : amM) : At cr2 d 148 2 [] [0, x1, x2, x3, 0] μ = bnd (RD cr2 d 144 [0, x1] μ) (fun v1 μ1 => (if v1 = 0 then some (3, μ1) else At cr2 d 148 3 [] [0, x1, x2, x3, 0] μ1)) := (At_eq cr2 d 148 2 _ _ _).trans rfl
set_option maxRecDepth 20000 in
theorem B148_3 (d : Nat) (x1 x2 x3 : Int) (μ : amM) : At cr2 d 148 3 [] [0, x1, x2, x3, 0] μ = (if (w32 (x2.tdiv 10)) = 5 then At cr2 d 148 4 [] [0, 0, 0, 0, 0] μ else bnd (RD cr2 d 6 [x3] μ) (fun v1 μ1 => bnd (RD cr2 d 74 [2, x1, v1] μ1) (fun v2 μ2 => (if v2 = 0 then At cr2 d 148 5 [] [0, 0, 0, 0, 0] μ2 else At cr2 d 148 4 [] [0, 0, 0, 0, 0] μ2)))) := (At_eq cr2 d 148 3 _ _ _).trans rfl
set_option maxRecDepth 20000 in
theorem B148_4 (d : Nat) (μ : amM) : At cr2 d 148 4 [] [0, 0, 0, 0, 0] μ = At cr2 d 148 6 [1] [0, 0, 0, 0, 0] μ := (At_eq cr2 d 148 4 _ _ _).trans rfl
set_option maxRecDepth 20000 in
theorem B148_5 (d : Nat) (μ : amM) : At cr2 d 148 5 [] [0, 0, 0, 0, 0] μ = At cr2 d 148 6 [0] [0, 0, 0, 0, 0] μ := (At_eq cr2 d 148 5 _ _ _).trans rfl
set_option maxRecDepth 20000 in
theorem B148_6 (d : Nat) (s0 : Int) (μ : amM) : At cr2 d 148 6 [s0] [0, 0, 0, 0, 0] μ = (if s0 = 0 then At cr2 d 148 7 [] [0, 0, 0, 0, 0] μ else At cr2 d 148 8 [0] [0, 0, 0, 0, 0] μ) := (At_eq cr2 d 148 6 _ _ _).trans rfl
set_option maxRecDepth 20000 in
theorem B148_7 (d : Nat) (μ : amM) : At cr2 d 148 7 [] [0, 0, 0, 0, 0] μ = At cr2 d 148 8 [5] [0, 0, 0, 0, 0] μ := (At_eq cr2 d 148 7 _ _ _).trans rfl
set_option maxRecDepth 20000 in
theorem B148_8 (d : Nat) (s0 : Int) (μ : amM) : At cr2 d 148 8 [s0] [0, 0, 0, 0, 0] μ = some (s0, μ) := (At_eq cr2 d 148 8 _ _ _).trans rfl
set_option maxRecDepth 20000 in
theorem B150_0 (d : Nat) (x1 : Int) (μ : amM) : At cr2 d 150 0 [] [71, x1] μ = rd 74 6 μ x1 (fun v1 => wr 74 6 μ x1 (w32 (v1 + 1)) (fun μ1 => some ((w32 ((-1000000000) - x1)), μ1))) := (At_eq cr2 d 150 0 _ _ _).trans rfl
set_option maxRecDepth 20000 in
theorem B151_0 (d : Nat) (x0 x2 x4 : Int) (μ : amM) : At cr2 d 151 0 [] [x0, 0, x2, 0, x4, 0] μ = (if (if x0 < x2 then (-1) else if x0 = x2 then 0 else 1) < 0 then At cr2 d 151 1 [] [0, 0, 0, 0, 0, 0] μ else (if 0 < (if x0 < x4 then (-1) else if x0 = x4 then 0 else 1) then At cr2 d 151 1 [] [0, 0, 0, 0, 0, 0] μ else At cr2 d 151 2 [1] [0, 0, 0, 0, 0, 0] μ)) := (At_eq cr2 d 151 0 _ _ _).trans rfl
set_option maxRecDepth 20000 in
theorem B151_1 (d : Nat) (μ : amM) : At cr2 d 151 1 [] [0, 0, 0, 0, 0, 0] μ = At cr2 d 151 2 [0] [0, 0, 0, 0, 0, 0] μ := (At_eq cr2 d 151 1 _ _ _).trans rfl
set_option maxRecDepth 20000 in
theorem B151_2 (d : Nat) (s0 : Int) (μ : amM) : At cr2 d 151 2 [s0] [0, 0, 0, 0, 0, 0] μ = rb s0 μ := (At_eq cr2 d 151 2 _ _ _).trans rfl
set_option maxRecDepth 20000 in
theorem B152_0 (d : Nat) (x0 x1 x2 : Int) (μ : amM) : At cr2 d 152 0 [] [x0, x1, x2] μ = (if x0 < x1 then At cr2 d 152 3 [x1] [0, 0, 0] μ else At cr2 d 152 1 [] [x0, 0, x2] μ) := (At_eq cr2 d 152 0 _ _ _).trans rfl
set_option maxRecDepth 20000 in
theorem B152_1 (d : Nat) (x0 x2 : Int) (μ : amM) : At cr2 d 152 1 [] [x0, 0, x2] μ = (if x2 < x0 then At cr2 d 152 3 [x2] [0, 0, 0] μ else At cr2 d 152 2 [] [x0, 0, 0] μ) := (At_eq cr2 d 152 1 _ _ _).trans rfl
set_option maxRecDepth 20000 in
theorem B152_2 (d : Nat) (x0 : Int) (μ : amM) : At cr2 d 152 2 [] [x0, 0, 0] μ = At cr2 d 152 3 [x0] [0, 0, 0] μ := (At_eq cr2 d 152 2 _ _ _).trans rfl
set_option maxRecDepth 20000 in
theorem B152_3 (d : Nat) (s0 : Int) (μ : amM) : At cr2 d 152 3 [s0] [0, 0, 0] μ = some (s0, μ) := (At_eq cr2 d 152 3 _ _ _).trans rfl
set_option maxRecDepth 20000 in
theorem B153_0 (d : Nat) (μ : amM) : At cr2 d 153 0 [] [71] μ = some ((w32 ((μ 72 0) * (μ 72 1))), μ) := (At_eq cr2 d 153 0 _ _ _).trans rfl
set_option maxRecDepth 20000 in
theorem B154_0 (d : Nat) (x1 : Int) (μ : amM) : At cr2 d 154 0 [] [71, x1] μ = bnd (RD cr2 d 153 [71] μ) (fun v1 μ1 => bnd (RD cr2 d 151 [x1, 0, (w32 (v1 - 1))] μ1) (fun v2 μ2 => rb v2 μ2)) := (At_eq cr2 d 154 0 _ _ _).trans rfl
set_option maxRecDepth 20000 in
theorem B155_0 (d : Nat) (x1 : Int) (μ : amM) : At cr2 d 155 0 [] [71, x1] μ = rd 72 576 μ (w32 (20 + x1)) (fun v1 => (if v1 = 0 then At cr2 d 155 2 [1] [0, 0] μ else At cr2 d 155 1 [] [0, 0] μ)) := (At_eq cr2 d 155 0 _ _ _).trans rfl
set_option maxRecDepth 20000 in
theorem B155_1 (d : Nat) (μ : amM) : At cr2 d 155 1 [] [0, 0] μ = At cr2 d 155 2 [0] [0, 0] μ := (At_eq cr2 d 155 1 _ _ _).trans rfl
set_option maxRecDepth 20000 in
theorem B155_2 (d : Nat) (s0 : Int) (μ : amM) : At cr2 d 155 2 [s0] [0, 0] μ = rb s0 μ := (At_eq cr2 d 155 2 _ _ _).trans rfl
set_option maxRecDepth 20000 in
theorem B156_0 (d : Nat) (x1 : Int) (μ : amM) : At cr2 d 156 0 [] [71, x1] μ = rd 72 576 μ (w32 (20 + x1)) (fun v1 => some ((w32 (v1 - 1)), μ)) := (At_eq cr2 d 156 0 _ _ _).trans rfl
set_option maxRecDepth 20000 in
theorem B157_0 (d : Nat) (x1 x2 : Int) (μ : amM) : At cr2 d 157 0 [] [71, x1, x2] μ = rd 72 576 μ (w32 ((w32 (148 + (w32 (4 * x1)))) + x2)) (fun v1 => some (v1, μ)) := (At_eq cr2 d 157 0 _ _ _).trans rfl
set_option maxRecDepth 20000 in
theorem B158_0 (d : Nat) (x1 x2 x3 : Int) (μ : amM) : At cr2 d 158 0 [] [71, x1, x2, x3] μ = wr 72 576 μ (w32 ((w32 (148 + (w32 (4 * x1)))) + x2)) x3 (fun μ1 => some (0, μ1)) := (At_eq cr2 d 158 0 _ _ _).trans rfl
set_option maxRecDepth 20000 in
theorem B159_0 (d : Nat) (μ : amM) : At cr2 d 159 0 [] [71] μ = (if (μ 71 5) < (μ 71 6) then (if (μ 71 7) < 0 then rd 72 576 μ (w32 ((μ 71 4) + (μ 71 5))) (fun v1 => At cr2 d 159 2 [v1] [0] μ) else At cr2 d 159 1 [] [0] μ) else At cr2 d 159 1 [] [0] μ) := (At_eq cr2 d 159 0 _ _ _).trans rfl
set_option maxRecDepth 20000 in
theorem B159_1 (d : Nat) (μ : amM) : At cr2 d 159 1 [] [0] μ = At cr2 d 159 2 [(-1)] [0] μ := (At_eq cr2 d 159 1 _ _ _).trans rfl
set_option maxRecDepth 20000 in
theorem B159_2 (d : Nat) (s0 : Int) (μ : amM) : At cr2 d 159 2 [s0] [0] μ = some (s0, μ) := (At_eq cr2 d 159 2 _ _ _).trans rfl
set_option maxRecDepth 20000 in
theorem B160_0 (d : Nat) (μ : amM) : At cr2 d 160 0 [] [71] μ = (if (μ 71 7) < 0 then At cr2 d 160 2 [(μ 71 5), 71] [0] μ else At cr2 d 160 1 [71] [71] μ) := (At_eq cr2 d 160 0 _ _ _).trans rfl
set_option maxRecDepth 20000 in
theorem B160_1 (d : Nat) (μ : amM) : At cr2 d 160 1 [71] [71] μ = At cr2 d 160 2 [(μ 71 7), 71] [0] μ := (At_eq cr2 d 160 1 _ _ _).trans rfl
set_option maxRecDepth 20000 in
theorem B160_2 (d : Nat) (s0 : Int) (μ : amM) : At cr2 d 160 2 [s0, 71] [0] μ = wf 71 7 μ s0 (fun μ1 => some (0, μ1)) := (At_eq cr2 d 160 2 _ _ _).trans rfl
set_option maxRecDepth 20000 in
theorem B161_0 (d : Nat) (x1 : Int) (μ : amM) : At cr2 d 161 0 [] [71, x1] μ = bnd (RD cr2 d 159 [71] μ) (fun v1 μ1 => (if v1 = x1 then At cr2 d 161 1 [] [71, 0] μ1 else some (0, μ1))) := (At_eq cr2 d 161 0 _ _ _).trans rfl
set_option maxRecDepth 20000 in
theorem B161_1 (d : Nat) (μ : amM) : At cr2 d 161 1 [] [71, 0] μ = wf 71 5 μ (w32 ((μ 71 5) + 1)) (fun μ1 => some (1, μ1)) := (At_eq cr2 d 161 1 _ _ _).trans rfl
set_option maxRecDepth 20000 in
theorem B162_0 (d : Nat) (x1 : Int) (μ : amM) : At cr2 d 162 0 [] [71, x1] μ = (if (μ 71 9) = 0 then At cr2 d 162 6 [] [0, x1] μ else (if x1 = 99 then At cr2 d 162 5 [0] [0, 0] μ else At cr2 d 162 1 [] [0, x1] μ)) := (At_eq cr2 d 162 0 _ _ _).trans rfl
set_option maxRecDepth 20000 in
theorem B162_1 (d : Nat) (x1 : Int) (μ : amM) : At cr2 d 162 1 [] [0, x1] μ = (if x1 = 114 then At cr2 d 162 5 [1] [0, 0] μ else At cr2 d 162 2 [] [0, x1] μ) := (At_eq cr2 d 162 1 _ _ _).trans rfl
set_option maxRecDepth 20000 in
theorem B162_2 (d : Nat) (x1 : Int) (μ : amM) : At cr2 d 162 2 [] [0, x1] μ = (if x1 = 100 then At cr2 d 162 5 [2] [0, 0] μ else At cr2 d 162 3 [] [0, x1] μ) := (At_eq cr2 d 162 2 _ _ _).trans rfl
