/-! ===== the methods begin with their first blocks ===== -/
set_option maxRecDepth 20000 in
theorem M1 (d : Nat) (μ : amM) : RD cr2 (d + 1) 1 [52, 2] μ = bnd (RD cr2 d 2 [52, 2] μ) (fun _ μ1 => At cr2 d 1 1 [] [52, 2, 0, 0, 0, 0] μ1) := B1_0 d  μ
set_option maxRecDepth 20000 in
theorem M2 (d : Nat) (μ : amM) : RD cr2 (d + 1) 2 [52, 2] μ = wf 52 2 μ 0 (fun μ1 => At cr2 d 2 1 [] [52, 2, 0] μ1) := B2_0 d  μ
set_option maxRecDepth 20000 in
theorem M3 (d : Nat) (x1 : Int) (μ : amM) : RD cr2 (d + 1) 3 [52, x1] μ = (if x1 < (μ 52 2) then wr 54 64 μ x1 0 (fun μ1 => At cr2 d 3 1 [] [0, 0] μ1) else At cr2 d 3 1 [] [0, 0] μ) := B3_0 d x1 μ
set_option maxRecDepth 20000 in
theorem M4 (d : Nat) (x2 : Int) (μ : amM) : RD cr2 (d + 1) 4 [52, 2, x2] μ = (if 0 < x2 then rd 53 64 μ (w32 (x2 - 1)) (fun v1 => wr 3 64 μ v1 (-1) (fun μ1 => At cr2 d 4 1 [] [0, 0, x2] μ1)) else At cr2 d 4 1 [] [0, 0, x2] μ) := B4_0 d x2 μ
set_option maxRecDepth 20000 in
theorem M5 (d : Nat) (μ : amM) : RD cr2 (d + 1) 5 [52, 2] μ = At cr2 d 5 1 [] [52, 2, 0] μ := B5_0 d  μ
set_option maxRecDepth 20000 in
theorem M6 (d : Nat) (x0 : Int) (μ : amM) : RD cr2 (d + 1) 6 [x0] μ = some ((bOr (bOr (bOr (w32 (x0.tdiv 27)) (bShl ((w32 (x0.tdiv 9)).tmod 3) 2)) (bShl ((w32 (x0.tdiv 3)).tmod 3) 4)) (bShl (x0.tmod 3) 6)), μ) := B6_0 d x0 μ
set_option maxRecDepth 20000 in
theorem M7 (d : Nat) (x0 x1 : Int) (μ : amM) : RD cr2 (d + 1) 7 [x0, x1] μ = some ((bAnd (bShr x0 (w32 (2 * x1))) 3), μ) := B7_0 d x0 x1 μ
set_option maxRecDepth 20000 in
theorem M8 (d : Nat) (x0 x1 x2 : Int) (μ : amM) : RD cr2 (d + 1) 8 [x0, x1, x2] μ = some ((bOr (bAnd x0 (bXor (bShl 3 (w32 (2 * x1))) (-1))) (bShl x2 (w32 (2 * x1)))), μ) := B8_0 d x0 x1 x2 μ
set_option maxRecDepth 20000 in
theorem M9 (d : Nat) (x0 : Int) (μ : amM) : RD cr2 (d + 1) 9 [x0] μ = At cr2 d 9 1 [] [x0, 0, 0] μ := B9_0 d x0 μ
set_option maxRecDepth 20000 in
theorem M10 (d : Nat) (x0 : Int) (μ : amM) : RD cr2 (d + 1) 10 [x0] μ = some ((bAnd (bAnd x0 (bShr x0 1)) 85), μ) := B10_0 d x0 μ
set_option maxRecDepth 20000 in
theorem M11 (d : Nat) (x0 x1 : Int) (μ : amM) : RD cr2 (d + 1) 11 [x0, x1] μ = bnd (RD cr2 d 265 [(bAnd (bOr (bOr (bXor x0 x1) (bShr (bXor x0 x1) 1)) (bAnd x0 (bShr x0 1))) 85)] μ) (fun v1 μ1 => some ((w32 (4 - v1)), μ1)) := B11_0 d x0 x1 μ
set_option maxRecDepth 20000 in
theorem M13 (d : Nat) (x2 x3 x4 : Int) (μ : amM) : RD cr2 (d + 1) 13 [41, 1, x2, x3, x4] μ = bnd (RD cr2 d 15 [41, 1] μ) (fun _ μ1 => wr 49 64 μ1 x2 (bShl 1 x3) (fun μ2 => if μ2 41 4 = 2 then rd 5 64 μ2 x2 (fun v1 => bnd (RD cr2 d 7 [v1, x3] μ2) (fun v2 μ3 => (if v2 = x4 then bnd (RD cr2 d 16 [41, 0] μ3) (fun v3 μ4 => some (v3, μ4)) else At cr2 d 13 1 [] [41, 1, x2, x3, x4, v1, 0] μ3))) else none)) := B13_0 d x2 x3 x4 μ
set_option maxRecDepth 20000 in
theorem M14 (d : Nat) (μ : amM) : RD cr2 (d + 1) 14 [41, 1] μ = bnd (RD cr2 d 15 [41, 1] μ) (fun _ μ1 => bnd (RD cr2 d 16 [41, 0] μ1) (fun v1 μ2 => some (v1, μ2))) := B14_0 d  μ
set_option maxRecDepth 20000 in
theorem M15 (d : Nat) (μ : amM) : RD cr2 (d + 1) 15 [41, 1] μ = wf 41 3 μ 1 (fun μ1 => wf 41 4 μ1 2 (fun μ2 => At cr2 d 15 1 [] [41, 0, 0] μ2)) := B15_0 d  μ
set_option maxRecDepth 20000 in
theorem M16 (d : Nat) (x1 : Int) (μ : amM) : RD cr2 (d + 1) 16 [41, x1] μ = if μ 41 4 = 2 then bnd (RD cr2 d 79 [2] μ) (fun v1 μ1 => wf 48 0 μ1 v1 (fun μ2 => if μ2 41 4 = 2 then amCpy μ2 8 0 43 0 (μ2 48 0) (fun μ3 => At cr2 d 16 1 [] [41, x1, 0] μ3) else none)) else none := B16_0 d x1 μ
set_option maxRecDepth 20000 in
theorem M17 (d : Nat) (x1 x2 : Int) (μ : amM) : RD cr2 (d + 1) 17 [41, x1, x2] μ = rd 48 5 μ x1 (fun v1 => (if v1 = 0 then some (0, μ) else At cr2 d 17 1 [] [41, x1, x2, 0, 0, 0, 0, 0, 0, 0, 0] μ)) := B17_0 d x1 x2 μ
set_option maxRecDepth 20000 in
theorem M18 (d : Nat) (x1 x2 x3 x4 : Int) (μ : amM) : RD cr2 (d + 1) 18 [41, x1, x2, x3, x4] μ = rd 49 64 μ x1 (fun v1 => (if (bAnd (bShr v1 x2) 1) = 0 then At cr2 d 18 1 [] [41, x1, x2, x3, x4, 0, 0, 0] μ else some ((-1), μ))) := B18_0 d x1 x2 x3 x4 μ
set_option maxRecDepth 20000 in
theorem M19 (d : Nat) (x1 x2 : Int) (μ : amM) : RD cr2 (d + 1) 19 [41, x1, x2] μ = amQld cr2 25 μ 42 x1 (fun v1 => amQld cr2 25 μ 42 (w32 (x1 + 1)) (fun v2 => At cr2 d 19 1 [] [41, x1, x2, v1, v2, 0, 0, 0] μ)) := B19_0 d x1 x2 μ
set_option maxRecDepth 20000 in
theorem M20 (d : Nat) (x1 : Int) (μ : amM) : RD cr2 (d + 1) 20 [41, x1] μ = rd 48 5 μ x1 (fun v1 => At cr2 d 20 1 [] [41, x1, (w32 ((w32 ((w32 (v1 + 4)) - 1)).tdiv 4)), 0, 0, 0, 0, 0, 0, 0, 0, 0] μ) := B20_0 d x1 μ
set_option maxRecDepth 20000 in
theorem M21 (d : Nat) (x0 x1 : Int) (μ : amM) : RD cr2 (d + 1) 21 [x0, x1] μ = At cr2 d 21 1 [] [x0, x1, 0, 0, 0] μ := B21_0 d x0 x1 μ
set_option maxRecDepth 20000 in
theorem M22 (d : Nat) (x0 x1 : Int) (μ : amM) : RD cr2 (d + 1) 22 [x0, x1] μ = (if x0 = (-1) then At cr2 d 22 1 [] [x0, x1] μ else (if x1 = (-1) then At cr2 d 22 1 [] [x0, x1] μ else At cr2 d 22 2 [] [x0, x1] μ)) := B22_0 d x0 x1 μ
set_option maxRecDepth 20000 in
theorem M24 (d : Nat) (x2 x3 : Int) (μ : amM) : RD cr2 (d + 1) 24 [37, 11, x2, x3] μ = wf 37 1 μ 11 (fun μ1 => wf 37 2 μ1 x2 (fun μ2 => wf 37 4 μ2 x3 (fun μ3 => wf 37 3 μ3 0 (fun μ4 => bnd (RD cr2 d 55 [38] μ4) (fun _ μ5 => bnd (RD cr2 d 26 [37, 0, 0] μ5) (fun v1 μ6 => (if v1 = 0 then At cr2 d 24 1 [] [37, 0, 0, 0] μ6 else (if (μ6 37 3) = (μ6 37 2) then At cr2 d 24 2 [(-1)] [0, 0, 0, 0] μ6 else At cr2 d 24 1 [] [37, 0, 0, 0] μ6)))))))) := B24_0 d x2 x3 μ
set_option maxRecDepth 20000 in
theorem M25 (d : Nat) (μ : amM) : RD cr2 (d + 1) 25 [37] μ = (if (μ 37 3) < (μ 37 2) then if μ 37 1 = 11 then rd 11 50 μ (μ 37 3) (fun v1 => At cr2 d 25 2 [v1] [0] μ) else none else At cr2 d 25 1 [] [0] μ) := B25_0 d  μ
set_option maxRecDepth 20000 in
theorem M26 (d : Nat) (x1 x2 : Int) (μ : amM) : RD cr2 (d + 1) 26 [37, x1, x2] μ = (if x1 < 5 then At cr2 d 26 1 [] [37, x1, x2, 0, 0, 0] μ else bnd (RD cr2 d 28 [37, x2] μ) (fun v1 μ1 => rb v1 μ1)) := B26_0 d x1 x2 μ
set_option maxRecDepth 20000 in
theorem M27 (d : Nat) (x0 x1 : Int) (μ : amM) : RD cr2 (d + 1) 27 [x0, x1] μ = (if x0 = 0 then At cr2 d 27 1 [] [0, x1] μ else if x0 = 1 then At cr2 d 27 4 [] [0, x1] μ else if x0 = 2 then At cr2 d 27 7 [] [0, x1] μ else if x0 = 3 then At cr2 d 27 11 [] [0, x1] μ else At cr2 d 27 15 [] [0, x1] μ) := B27_0 d x0 x1 μ
set_option maxRecDepth 20000 in
theorem M28 (d : Nat) (x1 : Int) (μ : amM) : RD cr2 (d + 1) 28 [37, x1] μ = bnd (RD cr2 d 25 [37] μ) (fun v1 μ1 => bnd (RD cr2 d 32 [v1] μ1) (fun v2 μ2 => (if v2 = 0 then At cr2 d 28 1 [] [37, x1, v1, 0] μ2 else bnd (RD cr2 d 31 [37] μ2) (fun _ μ3 => some (1, μ3))))) := B28_0 d x1 μ
set_option maxRecDepth 20000 in
theorem M29 (d : Nat) (x1 : Int) (μ : amM) : RD cr2 (d + 1) 29 [37, x1] μ = bnd (RD cr2 d 28 [37, x1] μ) (fun v1 μ1 => (if v1 = 0 then some (0, μ1) else At cr2 d 29 1 [] [37, 0] μ1)) := B29_0 d x1 μ
set_option maxRecDepth 20000 in
theorem M30 (d : Nat) (x1 : Int) (μ : amM) : RD cr2 (d + 1) 30 [37, x1] μ = bnd (RD cr2 d 26 [37, 0, x1] μ) (fun v1 μ1 => (if v1 = 0 then At cr2 d 30 1 [] [0, 0] μ1 else bnd (RD cr2 d 25 [37] μ1) (fun v2 μ2 => (if v2 = 41 then At cr2 d 30 2 [] [37, 0] μ2 else At cr2 d 30 1 [] [0, 0] μ2)))) := B30_0 d x1 μ
set_option maxRecDepth 20000 in
theorem M31 (d : Nat) (μ : amM) : RD cr2 (d + 1) 31 [37] μ = At cr2 d 31 1 [] [37, 0, 0] μ := B31_0 d  μ
set_option maxRecDepth 20000 in
theorem M32 (d : Nat) (x0 : Int) (μ : amM) : RD cr2 (d + 1) 32 [x0] μ = (if x0 < 48 then At cr2 d 32 1 [] [0] μ else (if 57 < x0 then At cr2 d 32 1 [] [0] μ else At cr2 d 32 2 [1] [0] μ)) := B32_0 d x0 μ
set_option maxRecDepth 20000 in
theorem M33 (d : Nat) (x1 : Int) (μ : amM) : RD cr2 (d + 1) 33 [37, x1] μ = (if x1 = 99 then At cr2 d 33 7 [] [37, 0] μ else if x1 = 100 then At cr2 d 33 13 [] [37, 0] μ else if x1 = 101 then At cr2 d 33 19 [] [0, 0] μ else if x1 = 102 then At cr2 d 33 19 [] [0, 0] μ else if x1 = 103 then At cr2 d 33 19 [] [0, 0] μ else if x1 = 104 then At cr2 d 33 19 [] [0, 0] μ else if x1 = 105 then At cr2 d 33 19 [] [0, 0] μ else if x1 = 106 then At cr2 d 33 19 [] [0, 0] μ else if x1 = 107 then At cr2 d 33 1 [] [37, 0] μ else if x1 = 108 then At cr2 d 33 19 [] [0, 0] μ else if x1 = 109 then At cr2 d 33 4 [] [37, 0] μ else if x1 = 110 then At cr2 d 33 19 [] [0, 0] μ else if x1 = 111 then At cr2 d 33 19 [] [0, 0] μ else if x1 = 112 then At cr2 d 33 19 [] [0, 0] μ else if x1 = 113 then At cr2 d 33 19 [] [0, 0] μ else if x1 = 114 then At cr2 d 33 10 [] [37, 0] μ else if x1 = 115 then At cr2 d 33 19 [] [0, 0] μ else if x1 = 116 then At cr2 d 33 19 [] [0, 0] μ else if x1 = 117 then At cr2 d 33 19 [] [0, 0] μ else if x1 = 118 then At cr2 d 33 16 [] [37, 0] μ else At cr2 d 33 19 [] [0, 0] μ) := B33_0 d x1 μ
set_option maxRecDepth 20000 in
theorem M35 (d : Nat) (x0 : Int) (μ : amM) : RD cr2 (d + 1) 35 [x0] μ = amGf cr2 μ 10 1 x0 (fun v1 => (if v1 = 0 then At cr2 d 35 2 [1] [0] μ else At cr2 d 35 1 [] [0] μ)) := B35_0 d x0 μ
set_option maxRecDepth 20000 in
theorem M36 (d : Nat) (x0 x1 x2 : Int) (μ : amM) : RD cr2 (d + 1) 36 [x0, x1, x2] μ = amPf cr2 μ 10 1 x0 x1 (fun μ1 => amPf cr2 μ1 10 2 x0 x2 (fun μ2 => At cr2 d 36 1 [] [x0, 0, x2, 0] μ2)) := B36_0 d x0 x1 x2 μ
set_option maxRecDepth 20000 in
theorem M37 (d : Nat) (x0 x1 x2 : Int) (μ : amM) : RD cr2 (d + 1) 37 [x0, x1, x2] μ = amGf cr2 μ 10 1 x0 (fun v1 => amGf cr2 μ 10 0 x0 (fun v2 => amPst 20 μ v2 x1 (bShr (bShl x2 (w32 (32 - v1))) (w32 (32 - v1))) (fun μ1 => some (0, μ1)))) := B37_0 d x0 x1 x2 μ
set_option maxRecDepth 20000 in
theorem M38 (d : Nat) (x0 x1 x2 : Int) (μ : amM) : RD cr2 (d + 1) 38 [x0, x1, x2] μ = (if x1 < 0 then At cr2 d 38 1 [] [0, 0, 0] μ else (if x2 < 0 then At cr2 d 38 1 [] [0, 0, 0] μ else amGf cr2 μ 10 2 x0 (fun v1 => (if v1 < x2 then At cr2 d 38 1 [] [0, 0, 0] μ else amGf cr2 μ 10 2 x0 (fun v2 => (if (w32 (v2 - x2)) < x1 then At cr2 d 38 1 [] [0, 0, 0] μ else At cr2 d 38 2 [1] [0, 0, 0] μ)))))) := B38_0 d x0 x1 x2 μ
set_option maxRecDepth 20000 in
theorem M40 (d : Nat) (x0 x1 : Int) (μ : amM) : RD cr2 (d + 1) 40 [x0, x1] μ = amGf cr2 μ 1 0 x0 (fun v1 => amGf cr2 μ 1 0 x1 (fun v2 => if amTg v1 = 2 then bnd (RD cr2 d 66 [v1, v2] μ) (fun _ μ1 => At cr2 d 40 1 [] [x0, x1, 0] μ1) else none)) := B40_0 d x0 x1 μ
set_option maxRecDepth 20000 in
theorem M41 (d : Nat) (μ : amM) : RD cr2 (d + 1) 41 [1] μ = wf 1 8 μ (w32 ((w32 ((μ 1 8) * 1103515245)) + 12345)) (fun μ1 => some ((bUshr (μ1 1 8) 8), μ1)) := B41_0 d  μ
set_option maxRecDepth 20000 in
theorem M42 (d : Nat) (x1 x2 : Int) (μ : amM) : RD cr2 (d + 1) 42 [1, x1, x2] μ = bnd (RD cr2 d 54 [13] μ) (fun v2 μ1 => (if v2 = 0 then At cr2 d 42 1 [] [1, x1, x2, 0] μ1 else At cr2 d 42 2 [(w32 (10 + x2))] [0, 0, 0, 0] μ1)) := B42_0 d x1 x2 μ
set_option maxRecDepth 20000 in
theorem M43 (d : Nat) (x1 x2 x3 x4 : Int) (μ : amM) : RD cr2 (d + 1) 43 [1, x1, x2, x3, x4] μ = bnd (RD cr2 d 54 [16] μ) (fun v2 μ1 => (if v2 = 0 then At cr2 d 43 1 [] [1, x1, x2, x3, x4] μ1 else some (0, μ1))) := B43_0 d x1 x2 x3 x4 μ
set_option maxRecDepth 20000 in
theorem M44 (d : Nat) (x1 x2 : Int) (μ : amM) : RD cr2 (d + 1) 44 [1, x1, x2] μ = rd 4 64 μ x1 (fun v1 => rd 3 64 μ x1 (fun v2 => (if v2 = 1 then At cr2 d 44 1 [] [1, 0, x2, v1] μ else if v2 = 2 then At cr2 d 44 2 [] [1, 0, x2, v1] μ else if v2 = 3 then At cr2 d 44 3 [] [0, 0, 0, v1] μ else if v2 = 4 then At cr2 d 44 4 [] [1, 0, x2, v1] μ else if v2 = 5 then At cr2 d 44 5 [] [0, 0, 0, 0] μ else if v2 = 6 then At cr2 d 44 6 [] [0, 0, 0, v1] μ else At cr2 d 44 7 [] [1, 0, x2, v1] μ))) := B44_0 d x1 x2 μ
set_option maxRecDepth 20000 in
theorem M45 (d : Nat) (x1 : Int) (μ : amM) : RD cr2 (d + 1) 45 [1, x1] μ = bnd (RD cr2 d 7 [x1, 0] μ) (fun v1 μ1 => bnd (RD cr2 d 7 [x1, 1] μ1) (fun v2 μ2 => bnd (RD cr2 d 7 [x1, 2] μ2) (fun v3 μ3 => bnd (RD cr2 d 7 [x1, 3] μ3) (fun v4 μ4 => bnd (RD cr2 d 43 [1, v1, v2, v3, v4] μ4) (fun v5 μ5 => some (v5, μ5)))))) := B45_0 d x1 μ
set_option maxRecDepth 20000 in
theorem M46 (d : Nat) (x1 x2 x3 : Int) (μ : amM) : RD cr2 (d + 1) 46 [1, x1, x2, x3] μ = rd 5 64 μ x1 (fun v1 => bnd (RD cr2 d 8 [v1, x2, x3] μ) (fun v2 μ1 => bnd (RD cr2 d 45 [1, v2] μ1) (fun v3 μ2 => bnd (RD cr2 d 45 [1, v1] μ2) (fun v4 μ3 => bnd (RD cr2 d 44 [1, x1, x2] μ3) (fun v5 μ4 => some ((w32 ((w32 (v3 - v4)) - v5)), μ4)))))) := B46_0 d x1 x2 x3 μ
set_option maxRecDepth 20000 in
theorem M47 (d : Nat) (x1 x2 x3 : Int) (μ : amM) : RD cr2 (d + 1) 47 [1, x1, x2, x3] μ = bnd (RD cr2 d 44 [1, x1, x2] μ) (fun v1 μ1 => wf 1 7 μ1 (jmin 999999 (w32 ((μ 1 7) + v1))) (fun μ2 => rd 5 64 μ2 x1 (fun v2 => bnd (RD cr2 d 8 [v2, x2, x3] μ2) (fun v3 μ3 => wr 5 64 μ3 x1 v3 (fun μ4 => some (0, μ4)))))) := B47_0 d x1 x2 x3 μ
set_option maxRecDepth 20000 in
theorem M48 (d : Nat) (x1 : Int) (μ : amM) : RD cr2 (d + 1) 48 [1, x1] μ = bnd (RD cr2 d 79 [2] μ) (fun v1 μ1 => At cr2 d 48 1 [] [1, x1, 0, v1, 0, 0, 0, 0] μ1) := B48_0 d x1 μ
set_option maxRecDepth 20000 in
theorem M50 (d : Nat) (x2 x3 x4 : Int) (μ : amM) : RD cr2 (d + 1) 50 [50, 2, x2, x3, x4] μ = wf 50 1 μ 2 (fun μ1 => wf 50 2 μ1 x2 (fun μ2 => wf 50 3 μ2 x3 (fun μ3 => wf 50 4 μ3 x4 (fun μ4 => if μ4 50 1 = 2 then rd 5 64 μ4 (μ4 50 2) (fun v1 => bnd (RD cr2 d 7 [v1, (μ4 50 3)] μ4) (fun v2 μ5 => (if v2 = (μ5 50 4) then some (0, μ5) else At cr2 d 50 1 [] [50, 0, 0, 0, 0, 0] μ5))) else none)))) := B50_0 d x2 x3 x4 μ
set_option maxRecDepth 20000 in
theorem M51 (d : Nat) (x1 : Int) (μ : amM) : RD cr2 (d + 1) 51 [50, x1] μ = (if 1 < x1 then At cr2 d 51 1 [] [50, x1, 0, 0] μ else if μ 50 1 = 2 then bnd (RD cr2 d 81 [2, (μ 50 2), (μ 50 3), (μ 50 4), 0] μ) (fun v1 μ1 => rb v1 μ1) else none) := B51_0 d x1 μ
set_option maxRecDepth 20000 in
theorem M52 (d : Nat) (x1 x2 x3 x4 : Int) (μ : amM) : RD cr2 (d + 1) 52 [50, x1, x2, x3, x4] μ = if μ 50 1 = 2 then bnd (RD cr2 d 81 [2, x1, x2, x3, 0] μ) (fun v1 μ1 => (if v1 = 0 then some (0, μ1) else At cr2 d 52 1 [] [50, x1, x2, x3, x4, 0, 0] μ1)) else none := B52_0 d x1 x2 x3 x4 μ
set_option maxRecDepth 20000 in
theorem M54 (d : Nat) (x0 : Int) (μ : amM) : RD cr2 (d + 1) 54 [x0] μ = amGf cr2 μ 3 2 x0 (fun v1 => (if v1 = 0 then At cr2 d 54 2 [1] [0] μ else At cr2 d 54 1 [] [0] μ)) := B54_0 d x0 μ
set_option maxRecDepth 20000 in
theorem M55 (d : Nat) (μ : amM) : RD cr2 (d + 1) 55 [38] μ = wf 38 2 μ 0 (fun μ1 => some (0, μ1)) := B55_0 d  μ
set_option maxRecDepth 20000 in
theorem M56 (d : Nat) (x1 : Int) (μ : amM) : RD cr2 (d + 1) 56 [38, x1] μ = (if (μ 38 2) < 50 then wr 39 50 μ (μ 38 2) x1 (fun μ1 => wf 38 2 μ1 (w32 ((μ1 38 2) + 1)) (fun μ2 => At cr2 d 56 1 [] [0, 0] μ2)) else At cr2 d 56 1 [] [0, 0] μ) := B56_0 d x1 μ
set_option maxRecDepth 20000 in
theorem M57 (d : Nat) (x0 x1 : Int) (μ : amM) : RD cr2 (d + 1) 57 [x0, x1] μ = amGf cr2 μ 3 0 x1 (fun v1 => amGf cr2 μ 3 0 x0 (fun v2 => amCpy μ v1 0 v2 0 50 (fun μ1 => amGf cr2 μ1 3 2 x1 (fun v3 => amPf cr2 μ1 3 2 x0 v3 (fun μ2 => some (0, μ2)))))) := B57_0 d x0 x1 μ
set_option maxRecDepth 20000 in
theorem M58 (d : Nat) (x0 x1 x2 x3 x4 : Int) (μ : amM) : RD cr2 (d + 1) 58 [x0, x1, x2, x3, x4] μ = At cr2 d 58 1 [] [x0, x1, x2, x3, x4, (-1), 0, 0] μ := B58_0 d x0 x1 x2 x3 x4 μ
set_option maxRecDepth 20000 in
theorem M59 (d : Nat) (x0 x1 x2 x3 x4 : Int) (μ : amM) : RD cr2 (d + 1) 59 [x0, x1, x2, x3, x4] μ = (if x0 = 0 then At cr2 d 59 1 [] [0, x1, 0, 0, 0] μ else if x0 = 1 then At cr2 d 59 2 [] [0, 0, x2, 0, 0] μ else if x0 = 2 then At cr2 d 59 3 [] [0, 0, 0, x3, 0] μ else At cr2 d 59 4 [] [0, 0, 0, 0, x4] μ) := B59_0 d x0 x1 x2 x3 x4 μ
set_option maxRecDepth 20000 in
theorem M60 (d : Nat) (x0 x1 x2 : Int) (μ : amM) : RD cr2 (d + 1) 60 [x0, x1, x2] μ = (if x0 = 38 then At cr2 d 60 5 [] [0, x1, x2] μ else if x0 = 42 then At cr2 d 60 19 [] [0, x1, x2] μ else if x0 = 43 then At cr2 d 60 17 [] [0, x1, x2] μ else if x0 = 45 then At cr2 d 60 18 [] [0, x1, x2] μ else if x0 = 47 then At cr2 d 60 20 [] [0, x1, x2] μ else if x0 = 60 then At cr2 d 60 8 [] [0, x1, x2] μ else if x0 = 61 then At cr2 d 60 11 [] [0, x1, x2] μ else if x0 = 62 then At cr2 d 60 14 [] [0, x1, x2] μ else if x0 = 124 then At cr2 d 60 1 [] [0, x1, x2] μ else At cr2 d 60 23 [] [0, x1, x2] μ) := B60_0 d x0 x1 x2 μ
set_option maxRecDepth 20000 in
theorem M62 (cr : amC) (d : Nat) (x0 x1 x2 x3 : Int) (μ : amM) : RD cr (d + 1) 62 [x0, x1, x2, x3] μ = amPf cr μ 2 7 x0 x1 (fun μ1 => amPf cr μ1 2 8 x0 x2 (fun μ2 => amPf cr μ2 2 9 x0 x3 (fun μ3 => amGf cr μ3 2 7 x0 (fun v1 => amGf cr μ3 2 8 x0 (fun v2 => amPf cr μ3 2 10 x0 (w32 (v1 * v2)) (fun μ4 => At cr d 62 1 [] [x0, 0, 0, 0, 0, 0] μ4)))))) := B62_0 cr d x0 x1 x2 x3 μ
set_option maxRecDepth 20000 in
theorem M63 (cr : amC) (d : Nat) (x0 x1 x2 : Int) (μ : amM) : RD cr (d + 1) 63 [x0, x1, x2] μ = amGf cr μ 2 8 x0 (fun v1 => amGf cr μ 2 8 x0 (fun v2 => (if (w32 (x2 + 1)) < v2 then if amTg x0 = 2 then bnd (RD cr d 64 [x0, (w32 ((w32 (x1 * v1)) + x2)), (w32 ((w32 ((w32 (x1 * v1)) + x2)) + 1))] μ) (fun _ μ1 => At cr d 63 2 [] [x0, x1, x2, (w32 ((w32 (x1 * v1)) + x2))] μ1) else none else At cr d 63 1 [] [x0, x1, x2, (w32 ((w32 (x1 * v1)) + x2))] μ))) := B63_0 cr d x0 x1 x2 μ
set_option maxRecDepth 20000 in
theorem M64 (cr : amC) (d : Nat) (x0 x1 x2 : Int) (μ : amM) : RD cr (d + 1) 64 [x0, x1, x2] μ = if amTg x0 = 2 then bnd (RD cr d 65 [x0, x1, x2] μ) (fun _ μ1 => if amTg x0 = 2 then bnd (RD cr d 65 [x0, x2, x1] μ1) (fun _ μ2 => some (0, μ2)) else none) else none := B64_0 cr d x0 x1 x2 μ
set_option maxRecDepth 20000 in
theorem M65 (cr : amC) (d : Nat) (x0 x1 x2 : Int) (μ : amM) : RD cr (d + 1) 65 [x0, x1, x2] μ = amGf cr μ 2 4 x0 (fun v1 => amAld μ v1 x1 (fun v2 => (if v2 < 4 then At cr d 65 1 [] [x0, x1, x2, (w32 (x1 * 4)), v2] μ else some (0, μ)))) := B65_0 cr d x0 x1 x2 μ
set_option maxRecDepth 20000 in
theorem M66 (d : Nat) (x0 x1 : Int) (μ : amM) : RD cr2 (d + 1) 66 [x0, x1] μ = amGf cr2 μ 2 0 x1 (fun v1 => amGf cr2 μ 2 0 x0 (fun v2 => amCpy μ v1 0 v2 0 64 (fun μ1 => amGf cr2 μ1 2 1 x1 (fun v3 => amGf cr2 μ1 2 1 x0 (fun v4 => amCpy μ1 v3 0 v4 0 64 (fun μ2 => amGf cr2 μ2 2 2 x1 (fun v5 => amGf cr2 μ2 2 2 x0 (fun v6 => amCpy μ2 v5 0 v6 0 64 (fun μ3 => amGf cr2 μ3 2 3 x1 (fun v7 => amGf cr2 μ3 2 3 x0 (fun v8 => amCpy μ3 v7 0 v8 0 256 (fun μ4 => amGf cr2 μ4 2 4 x1 (fun v9 => amGf cr2 μ4 2 4 x0 (fun v10 => amCpy μ4 v9 0 v10 0 64 (fun μ5 => amGf cr2 μ5 2 7 x1 (fun v11 => amPf cr2 μ5 2 7 x0 v11 (fun μ6 => amGf cr2 μ6 2 8 x1 (fun v12 => amPf cr2 μ6 2 8 x0 v12 (fun μ7 => amGf cr2 μ7 2 9 x1 (fun v13 => amPf cr2 μ7 2 9 x0 v13 (fun μ8 => amGf cr2 μ8 2 10 x1 (fun v14 => amPf cr2 μ8 2 10 x0 v14 (fun μ9 => amGf cr2 μ9 2 11 x1 (fun v15 => amPf cr2 μ9 2 11 x0 v15 (fun μ10 => amGf cr2 μ10 2 12 x1 (fun v16 => amPf cr2 μ10 2 12 x0 v16 (fun μ11 => some (0, μ11)))))))))))))))))))))))))))) := B66_0 d x0 x1 μ
set_option maxRecDepth 20000 in
theorem M67 (d : Nat) (x1 x2 x3 x4 : Int) (μ : amM) : RD cr2 (d + 1) 67 [2, x1, x2, x3, x4] μ = wr 3 64 μ x1 x2 (fun μ1 => wr 4 64 μ1 x1 x3 (fun μ2 => wr 5 64 μ2 x1 x4 (fun μ3 => some (0, μ3)))) := B67_0 d x1 x2 x3 x4 μ
set_option maxRecDepth 20000 in
theorem M68 (d : Nat) (μ : amM) : RD cr2 (d + 1) 68 [2] μ = At cr2 d 68 1 [] [2, 0, 0] μ := B68_0 d  μ
set_option maxRecDepth 20000 in
theorem M69 (d : Nat) (x1 x2 : Int) (μ : amM) : RD cr2 (d + 1) 69 [2, x1, x2] μ = rd 3 64 μ x1 (fun v1 => (if v1 = (-1) then (if x2 = (-1) then At cr2 d 69 2 [1] [0, 0, 0] μ else At cr2 d 69 1 [] [0, 0, 0] μ) else At cr2 d 69 3 [] [2, x1, x2] μ)) := B69_0 d x1 x2 μ
set_option maxRecDepth 20000 in
theorem M70 (d : Nat) (x1 : Int) (μ : amM) : RD cr2 (d + 1) 70 [2, x1] μ = rd 3 64 μ x1 (fun v1 => (if v1 = (-1) then At cr2 d 70 1 [] [0, 0] μ else rd 3 64 μ x1 (fun v2 => (if v2 = 5 then At cr2 d 70 1 [] [0, 0] μ else At cr2 d 70 2 [1] [0, 0] μ)))) := B70_0 d x1 μ
set_option maxRecDepth 20000 in
theorem M71 (d : Nat) (x1 x2 x3 : Int) (μ : amM) : RD cr2 (d + 1) 71 [2, x1, x2, x3] μ = rd 3 64 μ x1 (fun v1 => (if v1 = (-1) then At cr2 d 71 1 [] [0, 0, 0, 0] μ else rd 3 64 μ x1 (fun v2 => (if v2 = 5 then At cr2 d 71 1 [] [0, 0, 0, 0] μ else rd 5 64 μ x1 (fun v3 => bnd (RD cr2 d 7 [v3, x2] μ) (fun v4 μ1 => (if v4 = x3 then At cr2 d 71 1 [] [0, 0, 0, 0] μ1 else At cr2 d 71 2 [1] [0, 0, 0, 0] μ1))))))) := B71_0 d x1 x2 x3 μ
set_option maxRecDepth 20000 in
theorem M72 (d : Nat) (x1 x2 : Int) (μ : amM) : RD cr2 (d + 1) 72 [2, x1, x2] μ = bnd (RD cr2 d 11 [x1, x2] μ) (fun v1 μ1 => (if v1 < (μ1 2 11) then At cr2 d 72 1 [] [0, 0, 0, 0] μ1 else (if (μ1 2 12) < v1 then At cr2 d 72 1 [] [0, 0, 0, 0] μ1 else At cr2 d 72 2 [1] [0, 0, 0, 0] μ1))) := B72_0 d x1 x2 μ
set_option maxRecDepth 20000 in
theorem M73 (d : Nat) (x1 x2 : Int) (μ : amM) : RD cr2 (d + 1) 73 [2, x1, x2] μ = bnd (RD cr2 d 70 [2, x1] μ) (fun v1 μ1 => (if v1 = 0 then At cr2 d 73 1 [] [0, 0, 0] μ1 else bnd (RD cr2 d 70 [2, x2] μ1) (fun v2 μ2 => (if v2 = 0 then At cr2 d 73 1 [] [0, 0, 0] μ2 else rd 5 64 μ2 x1 (fun v3 => rd 5 64 μ2 x2 (fun v4 => bnd (RD cr2 d 72 [2, v3, v4] μ2) (fun v5 μ3 => (if v5 = 0 then At cr2 d 73 2 [1] [0, 0, 0] μ3 else At cr2 d 73 1 [] [0, 0, 0] μ3)))))))) := B73_0 d x1 x2 μ
set_option maxRecDepth 20000 in
theorem M74 (d : Nat) (x1 x2 : Int) (μ : amM) : RD cr2 (d + 1) 74 [2, x1, x2] μ = At cr2 d 74 1 [] [2, x1, x2, (w32 (x1 * 4)), 0, 0] μ := B74_0 d x1 x2 μ
set_option maxRecDepth 20000 in
theorem M75 (d : Nat) (x1 : Int) (μ : amM) : RD cr2 (d + 1) 75 [2, x1] μ = At cr2 d 75 1 [] [2, x1, 0, 0] μ := B75_0 d x1 μ
set_option maxRecDepth 20000 in
theorem M76 (d : Nat) (x1 x2 : Int) (μ : amM) : RD cr2 (d + 1) 76 [2, x1, x2] μ = At cr2 d 76 1 [] [2, x1, 0, x2, 0] μ := B76_0 d x1 x2 μ
set_option maxRecDepth 20000 in
theorem M77 (d : Nat) (μ : amM) : RD cr2 (d + 1) 77 [2] μ = At cr2 d 77 1 [] [2, 0, 0] μ := B77_0 d  μ
set_option maxRecDepth 20000 in
theorem M78 (d : Nat) (x1 x2 : Int) (μ : amM) : RD cr2 (d + 1) 78 [2, x1, x2] μ = bnd (RD cr2 d 6 [x1] μ) (fun v1 μ1 => At cr2 d 78 1 [] [2, 0, 0, v1, x2, 0] μ1) := B78_0 d x1 x2 μ
set_option maxRecDepth 20000 in
theorem M79 (d : Nat) (μ : amM) : RD cr2 (d + 1) 79 [2] μ = At cr2 d 79 1 [] [2, 0, 0, 0, 0] μ := B79_0 d  μ
set_option maxRecDepth 20000 in
theorem M80 (d : Nat) (x1 : Int) (μ : amM) : RD cr2 (d + 1) 80 [2, x1] μ = At cr2 d 80 1 [] [2, x1, 0, 0] μ := B80_0 d x1 μ
set_option maxRecDepth 20000 in
theorem M81 (d : Nat) (x1 x2 x3 x4 : Int) (μ : amM) : RD cr2 (d + 1) 81 [2, x1, x2, x3, x4] μ = bnd (RD cr2 d 71 [2, x1, x2, x3] μ) (fun v1 μ1 => (if v1 = 0 then At cr2 d 81 2 [] [0, 0, 0, 0, 0] μ1 else (if x4 = 0 then At cr2 d 81 1 [] [2, x1, x2, x3, 0] μ1 else bnd (RD cr2 d 80 [2, x1] μ1) (fun v2 μ2 => (if v2 = x4 then At cr2 d 81 1 [] [2, x1, x2, x3, 0] μ2 else At cr2 d 81 2 [] [0, 0, 0, 0, 0] μ2))))) := B81_0 d x1 x2 x3 x4 μ
set_option maxRecDepth 20000 in
theorem M82 (d : Nat) (x1 x2 : Int) (μ : amM) : RD cr2 (d + 1) 82 [2, x1, x2] μ = At cr2 d 82 1 [] [2, x1, x2, 0, 0] μ := B82_0 d x1 x2 μ
set_option maxRecDepth 20000 in
theorem M83 (d : Nat) (x1 x2 : Int) (μ : amM) : RD cr2 (d + 1) 83 [2, x1, x2] μ = amCpy μ 5 0 9 0 64 (fun μ1 => bnd (RD cr2 d 82 [2, x1, x2] μ1) (fun v1 μ2 => bnd (RD cr2 d 79 [2] μ2) (fun v2 μ3 => amCpy μ3 9 0 5 0 64 (fun μ4 => some (v2, μ4))))) := B83_0 d x1 x2 μ
set_option maxRecDepth 20000 in
theorem M85 (d : Nat) (x0 x1 : Int) (μ : amM) : RD cr2 (d + 1) 85 [x0, x1] μ = At cr2 d 85 1 [] [0, x1, x0, 0] μ := B85_0 d x0 x1 μ
set_option maxRecDepth 20000 in
theorem M86 (d : Nat) (x2 x3 x4 : Int) (μ : amM) : RD cr2 (d + 1) 86 [59, 2, x2, x3, x4] μ = rd 3 64 μ x2 (fun v1 => wf 59 2 μ v1 (fun μ1 => wf 59 3 μ1 x2 (fun μ2 => rd 4 64 μ2 x2 (fun v2 => wf 59 4 μ2 v2 (fun μ3 => wf 59 1 μ3 0 (fun μ4 => bnd (RD cr2 d 89 [59, (μ4 59 2), x3, x4, 0] μ4) (fun v3 μ5 => some (v3, μ5)))))))) := B86_0 d x2 x3 x4 μ
set_option maxRecDepth 20000 in
theorem M87 (d : Nat) (x0 x1 : Int) (μ : amM) : RD cr2 (d + 1) 87 [x0, x1] μ = At cr2 d 87 1 [] [0, x1, x0, 0] μ := B87_0 d x0 x1 μ
set_option maxRecDepth 20000 in
theorem M88 (d : Nat) (x1 : Int) (μ : amM) : RD cr2 (d + 1) 88 [59, x1] μ = (if (μ 59 1) < 40 then wr 60 40 μ (μ 59 1) x1 (fun μ1 => wf 59 1 μ1 (w32 ((μ1 59 1) + 1)) (fun μ2 => At cr2 d 88 1 [] [0, 0] μ2)) else At cr2 d 88 1 [] [0, 0] μ) := B88_0 d x1 μ
set_option maxRecDepth 20000 in
theorem M89 (d : Nat) (x1 x2 x3 x4 : Int) (μ : amM) : RD cr2 (d + 1) 89 [59, x1, x2, x3, x4] μ = (if x4 < 40 then At cr2 d 89 1 [] [59, x1, x2, x3, x4, 0, 0, 0] μ else some (0, μ)) := B89_0 d x1 x2 x3 x4 μ
set_option maxRecDepth 20000 in
theorem M91 (d : Nat) (x2 : Int) (μ : amM) : RD cr2 (d + 1) 91 [55, 2, x2] μ = At cr2 d 91 1 [] [55, 2, x2, 0] μ := B91_0 d x2 μ
set_option maxRecDepth 20000 in
theorem M92 (d : Nat) (μ : amM) : RD cr2 (d + 1) 92 [55, 2] μ = (if 0 < (μ 2 9) then (if (μ 2 8) < 3 then At cr2 d 92 1 [] [55, 2, 0, 0, 0, 0, 0, 0, 0] μ else At cr2 d 92 2 [1] [55, 2, 0, 0, 0, 0, 0, 0, 0] μ) else At cr2 d 92 1 [] [55, 2, 0, 0, 0, 0, 0, 0, 0] μ) := B92_0 d  μ
set_option maxRecDepth 20000 in
theorem M93 (d : Nat) (μ : amM) : RD cr2 (d + 1) 93 [2] μ = At cr2 d 93 1 [] [2, 0] μ := B93_0 d  μ
set_option maxRecDepth 20000 in
theorem M94 (d : Nat) (x1 : Int) (μ : amM) : RD cr2 (d + 1) 94 [2, x1] μ = (if x1 = (-1) then At cr2 d 94 1 [] [0, 0] μ else rd 3 64 μ x1 (fun v1 => (if v1 = (-1) then At cr2 d 94 1 [] [0, 0] μ else At cr2 d 94 2 [] [0, 0] μ))) := B94_0 d x1 μ
set_option maxRecDepth 20000 in
theorem M95 (d : Nat) (x1 : Int) (μ : amM) : RD cr2 (d + 1) 95 [2, x1] μ = bnd (RD cr2 d 94 [2, x1] μ) (fun v1 μ1 => (if v1 = 0 then At cr2 d 95 1 [] [0, 0] μ1 else At cr2 d 95 2 [81] [0, 0] μ1)) := B95_0 d x1 μ
set_option maxRecDepth 20000 in
theorem M96 (d : Nat) (x2 x3 : Int) (μ : amM) : RD cr2 (d + 1) 96 [55, 2, x2, x3] μ = bnd (RD cr2 d 94 [2, x2] μ) (fun v1 μ1 => (if v1 = 0 then bnd (RD cr2 d 70 [2, x2] μ1) (fun v2 μ2 => (if v2 = 0 then At cr2 d 96 3 [] [55, 2, x2, x3, 0, 0] μ2 else At cr2 d 96 1 [] [55, 2, x2, x3, 0, 0] μ2)) else At cr2 d 96 1 [] [55, 2, x2, x3, 0, 0] μ1)) := B96_0 d x2 x3 μ
set_option maxRecDepth 20000 in
theorem M97 (d : Nat) (x2 x3 x4 : Int) (μ : amM) : RD cr2 (d + 1) 97 [55, 2, x2, x3, x4] μ = bnd (RD cr2 d 94 [2, x2] μ) (fun v1 μ1 => (if v1 = 0 then At cr2 d 97 1 [] [55, 2, x2, x3, x4, v1, 0, 0, 0, 0] μ1 else At cr2 d 97 2 [81] [55, 2, x2, x3, x4, v1, 0, 0, 0, 0] μ1)) := B97_0 d x2 x3 x4 μ
set_option maxRecDepth 20000 in
theorem M99 (d : Nat) (x1 x2 x3 : Int) (μ : amM) : RD cr2 (d + 1) 99 [0, x1, x2, x3] μ = bnd (RD cr2 d 142 [x1, 1, 8] μ) (fun v1 μ1 => (if v1 = 0 then At cr2 d 99 1 [] [0, 0, 0, 0] μ1 else bnd (RD cr2 d 142 [x2, 1, 8] μ1) (fun v2 μ2 => (if v2 = 0 then At cr2 d 99 1 [] [0, 0, 0, 0] μ2 else bnd (RD cr2 d 142 [x3, 0, 2] μ2) (fun v3 μ3 => (if v3 = 0 then At cr2 d 99 1 [] [0, 0, 0, 0] μ3 else At cr2 d 99 2 [] [0, x1, x2, x3] μ3)))))) := B99_0 d x1 x2 x3 μ
set_option maxRecDepth 20000 in
theorem M100 (d : Nat) (x1 x2 : Int) (μ : amM) : RD cr2 (d + 1) 100 [0, x1, x2] μ = bnd (RD cr2 d 142 [x1, 0, 1] μ) (fun v1 μ1 => (if v1 = 0 then At cr2 d 100 1 [] [0, 0, 0, 0, 0] μ1 else bnd (RD cr2 d 142 [x2, 0, 4] μ1) (fun v2 μ2 => (if v2 = 0 then At cr2 d 100 1 [] [0, 0, 0, 0, 0] μ2 else At cr2 d 100 2 [] [0, x1, x2, 0, 0] μ2)))) := B100_0 d x1 x2 μ
set_option maxRecDepth 20000 in
theorem M101 (d : Nat) (x1 x2 x3 : Int) (μ : amM) : RD cr2 (d + 1) 101 [0, x1, x2, x3] μ = bnd (RD cr2 d 148 [0, x1, x2, x3] μ) (fun v1 μ1 => (if v1 = 0 then At cr2 d 101 1 [] [0, x1, x2, x3, 0] μ1 else bnd (RD cr2 d 141 [0, v1] μ1) (fun v2 μ2 => some (v2, μ2)))) := B101_0 d x1 x2 x3 μ
set_option maxRecDepth 20000 in
theorem M102 (d : Nat) (x1 : Int) (μ : amM) : RD cr2 (d + 1) 102 [0, x1] μ = bnd (RD cr2 d 143 [0, x1] μ) (fun v1 μ1 => (if v1 = 0 then bnd (RD cr2 d 141 [0, 1] μ1) (fun v2 μ2 => some (v2, μ2)) else At cr2 d 102 1 [] [0, x1] μ1)) := B102_0 d x1 μ
set_option maxRecDepth 20000 in
theorem M103 (d : Nat) (x1 x2 : Int) (μ : amM) : RD cr2 (d + 1) 103 [0, x1, x2] μ = bnd (RD cr2 d 143 [0, x1] μ) (fun v1 μ1 => (if v1 = 0 then At cr2 d 103 1 [] [0, 0, 0, 0] μ1 else bnd (RD cr2 d 142 [x2, 0, 11] μ1) (fun v2 μ2 => (if v2 = 0 then At cr2 d 103 1 [] [0, 0, 0, 0] μ2 else At cr2 d 103 2 [] [0, x1, x2, 0] μ2)))) := B103_0 d x1 x2 μ
set_option maxRecDepth 20000 in
theorem M104 (d : Nat) (x1 x2 : Int) (μ : amM) : RD cr2 (d + 1) 104 [0, x1, x2] μ = bnd (RD cr2 d 143 [0, x1] μ) (fun v1 μ1 => (if v1 = 0 then At cr2 d 104 1 [] [0, 0, 0, 0] μ1 else bnd (RD cr2 d 146 [x2] μ1) (fun v2 μ2 => (if v2 = 0 then At cr2 d 104 1 [] [0, 0, 0, 0] μ2 else At cr2 d 104 2 [] [0, x1, x2, 0] μ2)))) := B104_0 d x1 x2 μ
set_option maxRecDepth 20000 in
theorem M105 (d : Nat) (x1 x2 : Int) (μ : amM) : RD cr2 (d + 1) 105 [0, x1, x2] μ = bnd (RD cr2 d 143 [0, x1] μ) (fun v1 μ1 => (if v1 = 0 then At cr2 d 105 1 [] [0, 0, 0] μ1 else bnd (RD cr2 d 142 [x2, 0, 6] μ1) (fun v2 μ2 => (if v2 = 0 then At cr2 d 105 1 [] [0, 0, 0] μ2 else At cr2 d 105 2 [] [0, x1, x2] μ2)))) := B105_0 d x1 x2 μ
set_option maxRecDepth 20000 in
theorem M106 (d : Nat) (x1 x2 x3 : Int) (μ : amM) : RD cr2 (d + 1) 106 [0, x1, x2, x3] μ = bnd (RD cr2 d 143 [0, x1] μ) (fun v1 μ1 => (if v1 = 0 then At cr2 d 106 1 [] [0, 0, 0, 0, 0, 0] μ1 else bnd (RD cr2 d 145 [x2, x3] μ1) (fun v2 μ2 => (if v2 = 0 then At cr2 d 106 1 [] [0, 0, 0, 0, 0, 0] μ2 else At cr2 d 106 2 [] [0, x1, x2, x3, 0, 0] μ2)))) := B106_0 d x1 x2 x3 μ
set_option maxRecDepth 20000 in
theorem M107 (d : Nat) (x1 x2 : Int) (μ : amM) : RD cr2 (d + 1) 107 [0, x1, x2] μ = bnd (RD cr2 d 143 [0, x1] μ) (fun v1 μ1 => (if v1 = 0 then At cr2 d 107 1 [] [0, 0, 0] μ1 else bnd (RD cr2 d 143 [0, x2] μ1) (fun v2 μ2 => (if v2 = 0 then At cr2 d 107 1 [] [0, 0, 0] μ2 else At cr2 d 107 2 [] [0, x1, x2] μ2)))) := B107_0 d x1 x2 μ
set_option maxRecDepth 20000 in
theorem M108 (d : Nat) (x1 x2 : Int) (μ : amM) : RD cr2 (d + 1) 108 [0, x1, x2] μ = bnd (RD cr2 d 143 [0, x1] μ) (fun v1 μ1 => (if v1 = 0 then At cr2 d 108 1 [] [0, 0, 0, 0] μ1 else (if x2 < (-1) then At cr2 d 108 1 [] [0, 0, 0, 0] μ1 else At cr2 d 108 2 [] [0, x1, x2, 0] μ1))) := B108_0 d x1 x2 μ
set_option maxRecDepth 20000 in
theorem M109 (d : Nat) (x1 : Int) (μ : amM) : RD cr2 (d + 1) 109 [0, x1] μ = (if x1 < (-1) then bnd (RD cr2 d 141 [0, 1] μ) (fun v1 μ1 => some (v1, μ1)) else At cr2 d 109 1 [] [0, x1, 0] μ) := B109_0 d x1 μ
set_option maxRecDepth 20000 in
theorem M110 (d : Nat) (x1 x3 : Int) (μ : amM) : RD cr2 (d + 1) 110 [0, x1, x3] μ = bnd (RD cr2 d 142 [x3, 1, 8] μ) (fun v1 μ1 => (if v1 = 0 then bnd (RD cr2 d 141 [0, 1] μ1) (fun v2 μ2 => some (v2, μ2)) else At cr2 d 110 1 [] [0, x1, 0, x3, 0] μ1)) := B110_0 d x1 x3 μ
set_option maxRecDepth 20000 in
theorem M111 (d : Nat) (x1 : Int) (μ : amM) : RD cr2 (d + 1) 111 [0, x1] μ = bnd (RD cr2 d 142 [x1, 0, 1] μ) (fun v1 μ1 => (if v1 = 0 then bnd (RD cr2 d 141 [0, 1] μ1) (fun v2 μ2 => some (v2, μ2)) else At cr2 d 111 1 [] [0, x1, 0] μ1)) := B111_0 d x1 μ
set_option maxRecDepth 20000 in
theorem M112 (d : Nat) (x1 x2 x3 x4 x5 : Int) (μ : amM) : RD cr2 (d + 1) 112 [0, x1, x2, x3, x4, x5] μ = bnd (RD cr2 d 142 [x1, 0, 1] μ) (fun v1 μ1 => (if v1 = 0 then bnd (RD cr2 d 141 [0, 1] μ1) (fun v2 μ2 => some (v2, μ2)) else At cr2 d 112 1 [] [0, x1, x2, x3, x4, x5] μ1)) := B112_0 d x1 x2 x3 x4 x5 μ
set_option maxRecDepth 20000 in
theorem M113 (d : Nat) (x1 x2 x3 x4 : Int) (μ : amM) : RD cr2 (d + 1) 113 [0, x1, x2, x3, x4] μ = bnd (RD cr2 d 143 [0, x1] μ) (fun v1 μ1 => (if v1 = 0 then At cr2 d 113 1 [] [0, 0, 0, 0, 0, 0] μ1 else bnd (RD cr2 d 145 [x2, x3] μ1) (fun v2 μ2 => (if v2 = 0 then At cr2 d 113 1 [] [0, 0, 0, 0, 0, 0] μ2 else bnd (RD cr2 d 142 [x4, 0, 1] μ2) (fun v3 μ3 => (if v3 = 0 then At cr2 d 113 1 [] [0, 0, 0, 0, 0, 0] μ3 else At cr2 d 113 2 [] [0, x1, x2, x3, x4, 0] μ3)))))) := B113_0 d x1 x2 x3 x4 μ
set_option maxRecDepth 20000 in
theorem M114 (d : Nat) (x1 x2 x3 : Int) (μ : amM) : RD cr2 (d + 1) 114 [0, x1, x2, x3] μ = bnd (RD cr2 d 143 [0, x1] μ) (fun v1 μ1 => (if v1 = 0 then At cr2 d 114 1 [] [0, 0, 0, 0, 0] μ1 else bnd (RD cr2 d 145 [x2, x3] μ1) (fun v2 μ2 => (if v2 = 0 then At cr2 d 114 1 [] [0, 0, 0, 0, 0] μ2 else At cr2 d 114 2 [] [0, x1, x2, x3, 0] μ2)))) := B114_0 d x1 x2 x3 μ
set_option maxRecDepth 20000 in
theorem M115 (d : Nat) (μ : amM) : RD cr2 (d + 1) 115 [0] μ = bnd (RD cr2 d 14 [41, 1] μ) (fun v1 μ1 => (if v1 = (-1) then bnd (RD cr2 d 141 [0, 2] μ1) (fun v2 μ2 => At cr2 d 115 2 [v2] [0, 0] μ2) else At cr2 d 115 1 [] [0, v1] μ1)) := B115_0 d  μ
set_option maxRecDepth 20000 in
theorem M116 (d : Nat) (x1 : Int) (μ : amM) : RD cr2 (d + 1) 116 [0, x1] μ = bnd (RD cr2 d 142 [x1, 1, 9] μ) (fun v1 μ1 => (if v1 = 0 then bnd (RD cr2 d 141 [0, 1] μ1) (fun v2 μ2 => some (v2, μ2)) else At cr2 d 116 1 [] [0, x1, 0, 0, 0] μ1)) := B116_0 d x1 μ
set_option maxRecDepth 20000 in
theorem M117 (d : Nat) (x1 : Int) (μ : amM) : RD cr2 (d + 1) 117 [0, x1] μ = bnd (RD cr2 d 142 [x1, 3, 9] μ) (fun v1 μ1 => (if v1 = 0 then bnd (RD cr2 d 141 [0, 1] μ1) (fun v2 μ2 => some (v2, μ2)) else At cr2 d 117 1 [] [0, x1] μ1)) := B117_0 d x1 μ
set_option maxRecDepth 20000 in
theorem M118 (d : Nat) (μ : amM) : RD cr2 (d + 1) 118 [0] μ = (if (μ 2 7) = 1 then (if 9 < (μ 2 10) then At cr2 d 118 1 [] [0] μ else At cr2 d 118 2 [] [0] μ) else At cr2 d 118 1 [] [0] μ) := B118_0 d  μ
set_option maxRecDepth 20000 in
theorem M119 (d : Nat) (x1 : Int) (μ : amM) : RD cr2 (d + 1) 119 [0, x1] μ = bnd (RD cr2 d 147 [x1] μ) (fun v1 μ1 => (if v1 = 0 then bnd (RD cr2 d 141 [0, 1] μ1) (fun v2 μ2 => some (v2, μ2)) else At cr2 d 119 1 [] [0, x1, 0, 0, 0, 0] μ1)) := B119_0 d x1 μ
set_option maxRecDepth 20000 in
theorem M120 (d : Nat) (x1 x2 : Int) (μ : amM) : RD cr2 (d + 1) 120 [0, x1, x2] μ = bnd (RD cr2 d 145 [x1, x2] μ) (fun v1 μ1 => (if v1 = 0 then bnd (RD cr2 d 141 [0, 1] μ1) (fun v2 μ2 => some (v2, μ2)) else At cr2 d 120 1 [] [0, x1, x2] μ1)) := B120_0 d x1 x2 μ
set_option maxRecDepth 20000 in
theorem M121 (d : Nat) (x1 x2 : Int) (μ : amM) : RD cr2 (d + 1) 121 [0, x1, x2] μ = bnd (RD cr2 d 145 [x1, x2] μ) (fun v1 μ1 => (if v1 = 0 then bnd (RD cr2 d 141 [0, 1] μ1) (fun v2 μ2 => some (v2, μ2)) else At cr2 d 121 1 [] [0, x1, x2] μ1)) := B121_0 d x1 x2 μ
set_option maxRecDepth 20000 in
theorem M122 (d : Nat) (μ : amM) : RD cr2 (d + 1) 122 [0] μ = At cr2 d 122 1 [] [0, 0, (-1), 0, 0] μ := B122_0 d  μ
set_option maxRecDepth 20000 in
theorem M123 (d : Nat) (μ : amM) : RD cr2 (d + 1) 123 [0] μ = bnd (RD cr2 d 1 [52, 2] μ) (fun v1 μ1 => (if v1 = 0 then At cr2 d 123 2 [(μ1 52 2)] [0, 0] μ1 else At cr2 d 123 1 [] [0, v1] μ1)) := B123_0 d  μ
set_option maxRecDepth 20000 in
theorem M124 (d : Nat) (μ : amM) : RD cr2 (d + 1) 124 [0] μ = At cr2 d 124 1 [] [0, 0, 0] μ := B124_0 d  μ
set_option maxRecDepth 20000 in
theorem M125 (d : Nat) (x1 : Int) (μ : amM) : RD cr2 (d + 1) 125 [0, x1] μ = bnd (RD cr2 d 142 [x1, 0, 1] μ) (fun v1 μ1 => (if v1 = 0 then bnd (RD cr2 d 141 [0, 1] μ1) (fun v2 μ2 => some (v2, μ2)) else At cr2 d 125 1 [] [0, x1, 0, 0, 0, 0, 0, 0, 0] μ1)) := B125_0 d x1 μ
set_option maxRecDepth 20000 in
theorem M126 (d : Nat) (x1 : Int) (μ : amM) : RD cr2 (d + 1) 126 [0, x1] μ = bnd (RD cr2 d 142 [x1, 1, 200] μ) (fun v1 μ1 => (if v1 = 0 then bnd (RD cr2 d 141 [0, 1] μ1) (fun v2 μ2 => some (v2, μ2)) else At cr2 d 126 1 [] [0, x1] μ1)) := B126_0 d x1 μ
set_option maxRecDepth 20000 in
theorem M127 (d : Nat) (x1 : Int) (μ : amM) : RD cr2 (d + 1) 127 [0, x1] μ = wf 1 8 μ x1 (fun μ1 => some ((μ 1 8), μ1)) := B127_0 d x1 μ
set_option maxRecDepth 20000 in
theorem M128 (d : Nat) (x1 x2 x3 : Int) (μ : amM) : RD cr2 (d + 1) 128 [0, x1, x2, x3] μ = bnd (RD cr2 d 143 [0, x1] μ) (fun v1 μ1 => (if v1 = 0 then At cr2 d 128 1 [] [0, 0, 0, 0] μ1 else bnd (RD cr2 d 142 [x2, 0, 3] μ1) (fun v2 μ2 => (if v2 = 0 then At cr2 d 128 1 [] [0, 0, 0, 0] μ2 else At cr2 d 128 2 [] [0, x1, x2, x3] μ2)))) := B128_0 d x1 x2 x3 μ
set_option maxRecDepth 20000 in
theorem M129 (d : Nat) (x1 : Int) (μ : amM) : RD cr2 (d + 1) 129 [0, x1] μ = bnd (RD cr2 d 142 [x1, 0, (w32 ((μ 59 1) - 1))] μ) (fun v1 μ1 => (if v1 = 0 then At cr2 d 129 1 [] [0, 0] μ1 else rd 60 40 μ1 x1 (fun v2 => At cr2 d 129 2 [v2] [0, 0] μ1))) := B129_0 d x1 μ
set_option maxRecDepth 20000 in
theorem M130 (d : Nat) (x1 x2 x3 : Int) (μ : amM) : RD cr2 (d + 1) 130 [0, x1, x2, x3] μ = bnd (RD cr2 d 147 [x1] μ) (fun v1 μ1 => (if v1 = 0 then At cr2 d 130 1 [] [0, 0, 0, 0] μ1 else (if x2 = 0 then At cr2 d 130 2 [] [0, x1, x2, x3] μ1 else (if x2 = 8 then At cr2 d 130 2 [] [0, x1, x2, x3] μ1 else (if x2 = 16 then At cr2 d 130 2 [] [0, x1, x2, x3] μ1 else (if x2 = 32 then At cr2 d 130 2 [] [0, x1, x2, x3] μ1 else At cr2 d 130 1 [] [0, 0, 0, 0] μ1)))))) := B130_0 d x1 x2 x3 μ
set_option maxRecDepth 20000 in
theorem M131 (d : Nat) (x1 x2 x3 : Int) (μ : amM) : RD cr2 (d + 1) 131 [0, x1, x2, x3] μ = bnd (RD cr2 d 147 [x1] μ) (fun v1 μ1 => (if v1 = 0 then bnd (RD cr2 d 141 [0, 1] μ1) (fun v2 μ2 => some (v2, μ2)) else At cr2 d 131 1 [] [0, x1, x2, x3] μ1)) := B131_0 d x1 x2 x3 μ
set_option maxRecDepth 20000 in
theorem M132 (d : Nat) (x1 x2 x3 x4 x5 : Int) (μ : amM) : RD cr2 (d + 1) 132 [0, x1, x2, x3, x4, x5] μ = bnd (RD cr2 d 147 [x1] μ) (fun v1 μ1 => (if v1 = 0 then At cr2 d 132 1 [] [0, 0, 0, 0, 0, 0, 0, 0] μ1 else bnd (RD cr2 d 147 [x3] μ1) (fun v2 μ2 => (if v2 = 0 then At cr2 d 132 1 [] [0, 0, 0, 0, 0, 0, 0, 0] μ2 else At cr2 d 132 2 [] [0, x1, x2, x3, x4, x5, 0, 0] μ2)))) := B132_0 d x1 x2 x3 x4 x5 μ
set_option maxRecDepth 20000 in
theorem M133 (d : Nat) (x1 : Int) (μ : amM) : RD cr2 (d + 1) 133 [0, x1] μ = bnd (RD cr2 d 147 [x1] μ) (fun v1 μ1 => (if v1 = 0 then bnd (RD cr2 d 141 [0, 1] μ1) (fun v2 μ2 => some (v2, μ2)) else At cr2 d 133 1 [] [0, x1, 0, 0] μ1)) := B133_0 d x1 μ
set_option maxRecDepth 20000 in
theorem M134 (d : Nat) (x1 : Int) (μ : amM) : RD cr2 (d + 1) 134 [0, x1] μ = bnd (RD cr2 d 147 [x1] μ) (fun v1 μ1 => (if v1 = 0 then bnd (RD cr2 d 141 [0, 1] μ1) (fun v2 μ2 => some (v2, μ2)) else At cr2 d 134 1 [] [0, x1, 0, 0, 0] μ1)) := B134_0 d x1 μ
set_option maxRecDepth 20000 in
theorem M135 (d : Nat) (μ : amM) : RD cr2 (d + 1) 135 [0] μ = bnd (RD cr2 d 40 [19, 1] μ) (fun _ μ1 => wf 0 10 μ1 (w32 ((μ1 0 10) + 1)) (fun μ2 => some ((μ2 0 10), μ2))) := B135_0 d  μ
set_option maxRecDepth 20000 in
theorem M136 (d : Nat) (μ : amM) : RD cr2 (d + 1) 136 [0] μ = (if (μ 0 10) = 0 then bnd (RD cr2 d 141 [0, 2] μ) (fun v1 μ1 => some (v1, μ1)) else At cr2 d 136 1 [] [0] μ) := B136_0 d  μ
set_option maxRecDepth 20000 in
theorem M137 (d : Nat) (x1 : Int) (μ : amM) : RD cr2 (d + 1) 137 [0, x1] μ = (if (μ 1 5) < 20 then At cr2 d 137 1 [] [0, x1] μ else bnd (RD cr2 d 141 [0, 4] μ) (fun v1 μ1 => some (v1, μ1))) := B137_0 d x1 μ
set_option maxRecDepth 20000 in
theorem M138 (d : Nat) (μ : amM) : RD cr2 (d + 1) 138 [0] μ = wf 1 5 μ 0 (fun μ1 => At cr2 d 138 1 [] [0, (μ 1 5), 0] μ1) := B138_0 d  μ
set_option maxRecDepth 20000 in
theorem M139 (d : Nat) (x1 : Int) (μ : amM) : RD cr2 (d + 1) 139 [0, x1] μ = (if x1 = 0 then At cr2 d 139 1 [] [0, 0] μ else if x1 = 1 then At cr2 d 139 2 [] [0, 0] μ else if x1 = 2 then At cr2 d 139 3 [] [0, 0] μ else if x1 = 3 then At cr2 d 139 4 [] [0, 0] μ else if x1 = 4 then At cr2 d 139 5 [] [0, 0] μ else if x1 = 5 then At cr2 d 139 6 [] [0, 0] μ else if x1 = 6 then At cr2 d 139 7 [] [0, 0] μ else if x1 = 7 then At cr2 d 139 8 [] [0, 0] μ else if x1 = 8 then At cr2 d 139 9 [] [0, 0] μ else if x1 = 9 then At cr2 d 139 10 [] [0, 0] μ else if x1 = 10 then At cr2 d 139 11 [] [0, 0] μ else if x1 = 11 then At cr2 d 139 12 [] [0, 0] μ else At cr2 d 139 13 [] [0, 0] μ) := B139_0 d x1 μ
set_option maxRecDepth 20000 in
theorem M140 (d : Nat) (x1 : Int) (μ : amM) : RD cr2 (d + 1) 140 [0, x1] μ = bnd (RD cr2 d 142 [x1, 1, 5] μ) (fun v1 μ1 => (if v1 = 0 then At cr2 d 140 1 [] [0, 0] μ1 else rd 62 6 μ1 x1 (fun v2 => At cr2 d 140 2 [v2] [0, 0] μ1))) := B140_0 d x1 μ
set_option maxRecDepth 20000 in
theorem M141 (d : Nat) (x1 : Int) (μ : amM) : RD cr2 (d + 1) 141 [0, x1] μ = rd 62 6 μ x1 (fun v1 => wr 62 6 μ x1 (w32 (v1 + 1)) (fun μ1 => some ((w32 ((-1000000000) - x1)), μ1))) := B141_0 d x1 μ
set_option maxRecDepth 20000 in
theorem M142 (d : Nat) (x0 x1 x2 : Int) (μ : amM) : RD cr2 (d + 1) 142 [x0, x1, x2] μ = (if x0 < x1 then At cr2 d 142 1 [] [0, 0, 0] μ else (if x2 < x0 then At cr2 d 142 1 [] [0, 0, 0] μ else At cr2 d 142 2 [1] [0, 0, 0] μ)) := B142_0 d x0 x1 x2 μ
set_option maxRecDepth 20000 in
theorem M143 (d : Nat) (x1 : Int) (μ : amM) : RD cr2 (d + 1) 143 [0, x1] μ = bnd (RD cr2 d 142 [x1, 0, (w32 ((μ 2 10) - 1))] μ) (fun v1 μ1 => rb v1 μ1) := B143_0 d x1 μ
set_option maxRecDepth 20000 in
theorem M144 (d : Nat) (x1 : Int) (μ : amM) : RD cr2 (d + 1) 144 [0, x1] μ = rd 3 64 μ x1 (fun v1 => (if v1 = (-1) then At cr2 d 144 2 [1] [0, 0] μ else At cr2 d 144 1 [] [0, 0] μ)) := B144_0 d x1 μ
set_option maxRecDepth 20000 in
theorem M145 (d : Nat) (x0 x1 : Int) (μ : amM) : RD cr2 (d + 1) 145 [x0, x1] μ = bnd (RD cr2 d 142 [x0, 0, 3] μ) (fun v1 μ1 => (if v1 = 0 then At cr2 d 145 1 [] [0, 0] μ1 else bnd (RD cr2 d 142 [x1, 0, 2] μ1) (fun v2 μ2 => (if v2 = 0 then At cr2 d 145 1 [] [0, 0] μ2 else At cr2 d 145 2 [1] [0, 0] μ2)))) := B145_0 d x0 x1 μ
set_option maxRecDepth 20000 in
theorem M146 (d : Nat) (x0 : Int) (μ : amM) : RD cr2 (d + 1) 146 [x0] μ = bnd (RD cr2 d 142 [x0, 0, 69] μ) (fun v1 μ1 => rb v1 μ1) := B146_0 d x0 μ
set_option maxRecDepth 20000 in
theorem M147 (d : Nat) (x0 : Int) (μ : amM) : RD cr2 (d + 1) 147 [x0] μ = bnd (RD cr2 d 142 [x0, 0, 3] μ) (fun v1 μ1 => rb v1 μ1) := B147_0 d x0 μ
set_option maxRecDepth 20000 in
theorem M148 (d : Nat) (x1 x2 x3 : Int) (μ : amM) : RD cr2 (d + 1) 148 [0, x1, x2, x3] μ = bnd (RD cr2 d 143 [0, x1] μ) (fun v1 μ1 => (if v1 = 0 then At cr2 d 148 1 [] [0, 0, 0, 0, 0] μ1 else bnd (RD cr2 d 146 [x2] μ1) (fun v2 μ2 => (if v2 = 0 then At cr2 d 148 1 [] [0, 0, 0, 0, 0] μ2 else bnd (RD cr2 d 142 [x3, 0, 80] μ2) (fun v3 μ3 => (if v3 = 0 then At cr2 d 148 1 [] [0, 0, 0, 0, 0] μ3 else At cr2 d 148 2 [] [0, x1, x2, x3, 0] μ3)))))) := B148_0 d x1 x2 x3 μ
set_option maxRecDepth 20000 in
theorem M150 (d : Nat) (x1 : Int) (μ : amM) : RD cr2 (d + 1) 150 [71, x1] μ = rd 74 6 μ x1 (fun v1 => wr 74 6 μ x1 (w32 (v1 + 1)) (fun μ1 => some ((w32 ((-1000000000) - x1)), μ1))) := B150_0 d x1 μ
set_option maxRecDepth 20000 in
theorem M151 (d : Nat) (x0 x2 x4 : Int) (μ : amM) : RD cr2 (d + 1) 151 [x0, x2, x4] μ = (if (if x0 < x2 then (-1) else if x0 = x2 then 0 else 1) < 0 then At cr2 d 151 1 [] [0, 0, 0, 0, 0, 0] μ else (if 0 < (if x0 < x4 then (-1) else if x0 = x4 then 0 else 1) then At cr2 d 151 1 [] [0, 0, 0, 0, 0, 0] μ else At cr2 d 151 2 [1] [0, 0, 0, 0, 0, 0] μ)) := B151_0 d x0 x2 x4 μ
set_option maxRecDepth 20000 in
theorem M152 (d : Nat) (x0 x1 x2 : Int) (μ : amM) : RD cr2 (d + 1) 152 [x0, x1, x2] μ = (if x0 < x1 then At cr2 d 152 3 [x1] [0, 0, 0] μ else At cr2 d 152 1 [] [x0, 0, x2] μ) := B152_0 d x0 x1 x2 μ
set_option maxRecDepth 20000 in
theorem M153 (d : Nat) (μ : amM) : RD cr2 (d + 1) 153 [71] μ = some ((w32 ((μ 72 0) * (μ 72 1))), μ) := B153_0 d  μ
set_option maxRecDepth 20000 in
theorem M154 (d : Nat) (x1 : Int) (μ : amM) : RD cr2 (d + 1) 154 [71, x1] μ = bnd (RD cr2 d 153 [71] μ) (fun v1 μ1 => bnd (RD cr2 d 151 [x1, 0, (w32 (v1 - 1))] μ1) (fun v2 μ2 => rb v2 μ2)) := B154_0 d x1 μ
set_option maxRecDepth 20000 in
theorem M155 (d : Nat) (x1 : Int) (μ : amM) : RD cr2 (d + 1) 155 [71, x1] μ = rd 72 576 μ (w32 (20 + x1)) (fun v1 => (if v1 = 0 then At cr2 d 155 2 [1] [0, 0] μ else At cr2 d 155 1 [] [0, 0] μ)) := B155_0 d x1 μ
set_option maxRecDepth 20000 in
theorem M156 (d : Nat) (x1 : Int) (μ : amM) : RD cr2 (d + 1) 156 [71, x1] μ = rd 72 576 μ (w32 (20 + x1)) (fun v1 => some ((w32 (v1 - 1)), μ)) := B156_0 d x1 μ
set_option maxRecDepth 20000 in
theorem M157 (d : Nat) (x1 x2 : Int) (μ : amM) : RD cr2 (d + 1) 157 [71, x1, x2] μ = rd 72 576 μ (w32 ((w32 (148 + (w32 (4 * x1)))) + x2)) (fun v1 => some (v1, μ)) := B157_0 d x1 x2 μ
set_option maxRecDepth 20000 in
theorem M158 (d : Nat) (x1 x2 x3 : Int) (μ : amM) : RD cr2 (d + 1) 158 [71, x1, x2, x3] μ = wr 72 576 μ (w32 ((w32 (148 + (w32 (4 * x1)))) + x2)) x3 (fun μ1 => some (0, μ1)) := B158_0 d x1 x2 x3 μ
set_option maxRecDepth 20000 in
theorem M159 (d : Nat) (μ : amM) : RD cr2 (d + 1) 159 [71] μ = (if (μ 71 5) < (μ 71 6) then (if (μ 71 7) < 0 then rd 72 576 μ (w32 ((μ 71 4) + (μ 71 5))) (fun v1 => At cr2 d 159 2 [v1] [0] μ) else At cr2 d 159 1 [] [0] μ) else At cr2 d 159 1 [] [0] μ) := B159_0 d  μ
set_option maxRecDepth 20000 in
theorem M160 (d : Nat) (μ : amM) : RD cr2 (d + 1) 160 [71] μ = (if (μ 71 7) < 0 then At cr2 d 160 2 [(μ 71 5), 71] [0] μ else At cr2 d 160 1 [71] [71] μ) := B160_0 d  μ
set_option maxRecDepth 20000 in
theorem M161 (d : Nat) (x1 : Int) (μ : amM) : RD cr2 (d + 1) 161 [71, x1] μ = bnd (RD cr2 d 159 [71] μ) (fun v1 μ1 => (if v1 = x1 then At cr2 d 161 1 [] [71, 0] μ1 else some (0, μ1))) := B161_0 d x1 μ
set_option maxRecDepth 20000 in
theorem M162 (d : Nat) (x1 : Int) (μ : amM) : RD cr2 (d + 1) 162 [71, x1] μ = (if (μ 71 9) = 0 then At cr2 d 162 6 [] [0, x1] μ else (if x1 = 99 then At cr2 d 162 5 [0] [0, 0] μ else At cr2 d 162 1 [] [0, x1] μ)) := B162_0 d x1 μ
set_option maxRecDepth 20000 in
theorem M163 (d : Nat) (μ : amM) : RD cr2 (d + 1) 163 [71] μ = bnd (RD cr2 d 164 [71] μ) (fun v1 μ1 => At cr2 d 163 1 [] [71, v1, 0] μ1) := B163_0 d  μ
set_option maxRecDepth 20000 in
theorem M164 (d : Nat) (μ : amM) : RD cr2 (d + 1) 164 [71] μ = bnd (RD cr2 d 165 [71] μ) (fun v1 μ1 => At cr2 d 164 1 [] [71, v1, 0] μ1) := B164_0 d  μ
set_option maxRecDepth 20000 in
theorem M165 (d : Nat) (μ : amM) : RD cr2 (d + 1) 165 [71] μ = bnd (RD cr2 d 166 [71] μ) (fun v1 μ1 => bnd (RD cr2 d 159 [71] μ1) (fun v2 μ2 => (if v2 = 60 then At cr2 d 165 1 [] [71, v1, v2, 0] μ2 else (if v2 = 61 then At cr2 d 165 1 [] [71, v1, v2, 0] μ2 else (if v2 = 62 then At cr2 d 165 1 [] [71, v1, v2, 0] μ2 else some (v1, μ2)))))) := B165_0 d  μ
set_option maxRecDepth 20000 in
theorem M166 (d : Nat) (μ : amM) : RD cr2 (d + 1) 166 [71] μ = bnd (RD cr2 d 167 [71] μ) (fun v1 μ1 => At cr2 d 166 1 [] [71, v1, 0, 0] μ1) := B166_0 d  μ
set_option maxRecDepth 20000 in
theorem M167 (d : Nat) (μ : amM) : RD cr2 (d + 1) 167 [71] μ = bnd (RD cr2 d 168 [71] μ) (fun v1 μ1 => At cr2 d 167 1 [] [71, v1, 0, 0] μ1) := B167_0 d  μ
set_option maxRecDepth 20000 in
theorem M168 (d : Nat) (μ : amM) : RD cr2 (d + 1) 168 [71] μ = bnd (RD cr2 d 159 [71] μ) (fun v1 μ1 => (if v1 = 33 then At cr2 d 168 1 [] [71, v1, 0, 0, 0] μ1 else (if v1 = 40 then At cr2 d 168 1 [] [71, v1, 0, 0, 0] μ1 else At cr2 d 168 9 [] [71, v1, 0, 0, 0] μ1))) := B168_0 d  μ
set_option maxRecDepth 20000 in
theorem M169 (d : Nat) (x1 x2 x3 : Int) (μ : amM) : RD cr2 (d + 1) 169 [71, x1, x2, x3] μ = wf 71 4 μ x1 (fun μ1 => wf 71 5 μ1 0 (fun μ2 => wf 71 6 μ2 x2 (fun μ3 => wf 71 7 μ3 (-1) (fun μ4 => wf 71 8 μ4 0 (fun μ5 => (if x3 = 1 then At cr2 d 169 2 [1, 71] [71, 0, 0, 0, 0] μ5 else At cr2 d 169 1 [71] [71, 0, 0, 0, 0] μ5)))))) := B169_0 d x1 x2 x3 μ
set_option maxRecDepth 20000 in
theorem M170 (d : Nat) (x1 x3 : Int) (μ : amM) : RD cr2 (d + 1) 170 [71, x1, x3] μ = bnd (RD cr2 d 151 [x3, 1, 8] μ) (fun v1 μ1 => (if v1 = 0 then bnd (RD cr2 d 150 [71, 1] μ1) (fun v2 μ2 => some (v2, μ2)) else At cr2 d 170 1 [] [71, x1, 0, x3, 0] μ1)) := B170_0 d x1 x3 μ
set_option maxRecDepth 20000 in
theorem M171 (d : Nat) (x1 : Int) (μ : amM) : RD cr2 (d + 1) 171 [71, x1] μ = bnd (RD cr2 d 151 [x1, 0, 1] μ) (fun v1 μ1 => (if v1 = 0 then bnd (RD cr2 d 150 [71, 1] μ1) (fun v2 μ2 => some (v2, μ2)) else At cr2 d 171 1 [] [71, x1, 0, 0, 0] μ1)) := B171_0 d x1 μ
set_option maxRecDepth 20000 in
theorem M172 (d : Nat) (x1 x2 x3 x4 x5 : Int) (μ : amM) : RD cr2 (d + 1) 172 [71, x1, x2, x3, x4, x5] μ = (if x1 = 0 then At cr2 d 172 2 [(w32 (10 + x3))] [71, x1, x2, x3, x4, x5, 0] μ else At cr2 d 172 1 [] [71, x1, x2, x3, x4, x5, 0] μ) := B172_0 d x1 x2 x3 x4 x5 μ
set_option maxRecDepth 20000 in
theorem M173 (d : Nat) (x1 x2 x3 x4 x5 : Int) (μ : amM) : RD cr2 (d + 1) 173 [71, x1, x2, x3, x4, x5] μ = bnd (RD cr2 d 151 [x1, 0, 1] μ) (fun v1 μ1 => (if v1 = 0 then At cr2 d 173 1 [] [71, 0, 0, 0, 0, 0] μ1 else bnd (RD cr2 d 172 [71, x1, x2, x3, x4, x5] μ1) (fun v2 μ2 => At cr2 d 173 2 [v2] [0, 0, 0, 0, 0, 0] μ2))) := B173_0 d x1 x2 x3 x4 x5 μ
set_option maxRecDepth 20000 in
theorem M174 (d : Nat) (x1 x2 : Int) (μ : amM) : RD cr2 (d + 1) 174 [71, x1, x2] μ = wr 76 128 μ (μ 71 13) x1 (fun μ1 => wr 77 128 μ1 (μ1 71 13) x2 (fun μ2 => wf 71 13 μ2 (w32 ((μ2 71 13) + 1)) (fun μ3 => some (0, μ3)))) := B174_0 d x1 x2 μ
set_option maxRecDepth 20000 in
theorem M175 (d : Nat) (μ : amM) : RD cr2 (d + 1) 175 [71] μ = wf 71 13 μ 0 (fun μ1 => At cr2 d 175 1 [] [71, (μ1 72 1), 0, 0] μ1) := B175_0 d  μ
set_option maxRecDepth 20000 in
theorem M176 (d : Nat) (x1 x2 : Int) (μ : amM) : RD cr2 (d + 1) 176 [71, x1, x2] μ = At cr2 d 176 1 [] [71, x1, x2, 0, 0] μ := B176_0 d x1 x2 μ
set_option maxRecDepth 20000 in
theorem M177 (d : Nat) (x1 : Int) (μ : amM) : RD cr2 (d + 1) 177 [71, x1] μ = bnd (RD cr2 d 155 [71, x1] μ) (fun v1 μ1 => (if v1 = 0 then bnd (RD cr2 d 156 [71, x1] μ1) (fun v2 μ2 => (if v2 = 5 then At cr2 d 177 1 [] [0, 0] μ2 else At cr2 d 177 2 [1] [0, 0] μ2)) else At cr2 d 177 1 [] [0, 0] μ1)) := B177_0 d x1 μ
set_option maxRecDepth 20000 in
theorem M178 (d : Nat) (x1 : Int) (μ : amM) : RD cr2 (d + 1) 178 [71, x1] μ = rd 76 128 μ x1 (fun v1 => bnd (RD cr2 d 177 [71, v1] μ) (fun v2 μ1 => (if v2 = 0 then At cr2 d 178 1 [] [0, 0] μ1 else rd 77 128 μ1 x1 (fun v3 => bnd (RD cr2 d 177 [71, v3] μ1) (fun v4 μ2 => (if v4 = 0 then At cr2 d 178 1 [] [0, 0] μ2 else rd 76 128 μ2 x1 (fun v5 => rd 77 128 μ2 x1 (fun v6 => bnd (RD cr2 d 176 [71, v5, v6] μ2) (fun v7 μ3 => bnd (RD cr2 d 151 [v7, (μ3 72 3), (μ3 72 4)] μ3) (fun v10 μ4 => (if v10 = 0 then At cr2 d 178 2 [1] [0, 0] μ4 else At cr2 d 178 1 [] [0, 0] μ4))))))))))) := B178_0 d x1 μ
set_option maxRecDepth 20000 in
theorem M179 (d : Nat) (x1 : Int) (μ : amM) : RD cr2 (d + 1) 179 [71, x1] μ = At cr2 d 179 1 [] [71, x1, 1, 0] μ := B179_0 d x1 μ
set_option maxRecDepth 20000 in
theorem M180 (d : Nat) (μ : amM) : RD cr2 (d + 1) 180 [71] μ = wf 71 14 μ 0 (fun μ1 => wf 71 15 μ1 (-1) (fun μ2 => At cr2 d 180 1 [] [71, (w32 ((μ2 71 13) - 1))] μ2)) := B180_0 d  μ
set_option maxRecDepth 20000 in
theorem M181 (d : Nat) (μ : amM) : RD cr2 (d + 1) 181 [71] μ = bnd (RD cr2 d 180 [71] μ) (fun _ μ1 => (if (μ1 71 14) = 0 then At cr2 d 181 2 [1] [0] μ1 else At cr2 d 181 1 [] [0] μ1)) := B181_0 d  μ
set_option maxRecDepth 20000 in
theorem M182 (d : Nat) (x1 x2 x3 : Int) (μ : amM) : RD cr2 (d + 1) 182 [71, x1, x2, x3] μ = wr 72 576 μ (w32 (20 + x1)) (w32 (1 + (w32 (x2.tdiv 10)))) (fun μ1 => wr 72 576 μ1 (w32 (84 + x1)) (x2.tmod 10) (fun μ2 => bnd (RD cr2 d 158 [71, x1, 0, (w32 (x3.tdiv 27))] μ2) (fun _ μ3 => bnd (RD cr2 d 158 [71, x1, 1, ((w32 (x3.tdiv 9)).tmod 3)] μ3) (fun _ μ4 => bnd (RD cr2 d 158 [71, x1, 2, ((w32 (x3.tdiv 3)).tmod 3)] μ4) (fun _ μ5 => bnd (RD cr2 d 158 [71, x1, 3, (x3.tmod 3)] μ5) (fun _ μ6 => some (0, μ6))))))) := B182_0 d x1 x2 x3 μ
set_option maxRecDepth 20000 in
theorem M183 (d : Nat) (x1 : Int) (μ : amM) : RD cr2 (d + 1) 183 [71, x1] μ = wr 72 576 μ (w32 (20 + x1)) 0 (fun μ1 => wr 72 576 μ1 (w32 (84 + x1)) 0 (fun μ2 => At cr2 d 183 1 [] [71, x1, 0] μ2)) := B183_0 d x1 μ
set_option maxRecDepth 20000 in
theorem M184 (d : Nat) (μ : amM) : RD cr2 (d + 1) 184 [71] μ = At cr2 d 184 1 [] [71, 0, 0] μ := B184_0 d  μ
set_option maxRecDepth 20000 in
theorem M185 (d : Nat) (x1 x2 : Int) (μ : amM) : RD cr2 (d + 1) 185 [71, x1, x2] μ = rd 72 576 μ (w32 (84 + x1)) (fun v1 => bnd (RD cr2 d 172 [71, 0, x2, v1, 0, 0] μ) (fun v2 μ1 => bnd (RD cr2 d 156 [71, x1] μ1) (fun v3 μ2 => (if v3 = 1 then At cr2 d 185 1 [] [0, 0, 0, 0, v2] μ2 else if v3 = 2 then At cr2 d 185 2 [] [0, 0, 0, 0, v2] μ2 else if v3 = 3 then At cr2 d 185 3 [] [0, 0, 0, v1, 0] μ2 else if v3 = 4 then At cr2 d 185 4 [] [0, 0, 0, 0, v2] μ2 else if v3 = 5 then At cr2 d 185 5 [] [0, 0, 0, 0, 0] μ2 else if v3 = 6 then At cr2 d 185 6 [] [0, 0, 0, v1, 0] μ2 else At cr2 d 185 9 [] [0, 0, 0, 0, v2] μ2)))) := B185_0 d x1 x2 μ
set_option maxRecDepth 20000 in
theorem M186 (d : Nat) (x1 : Int) (μ : amM) : RD cr2 (d + 1) 186 [71, x1] μ = bnd (RD cr2 d 157 [71, x1, 0] μ) (fun v1 μ1 => bnd (RD cr2 d 157 [71, x1, 1] μ1) (fun v2 μ2 => bnd (RD cr2 d 157 [71, x1, 2] μ2) (fun v3 μ3 => bnd (RD cr2 d 157 [71, x1, 3] μ3) (fun v4 μ4 => bnd (RD cr2 d 172 [71, 1, v1, v2, v3, v4] μ4) (fun v5 μ5 => some (v5, μ5)))))) := B186_0 d x1 μ
set_option maxRecDepth 20000 in
theorem M187 (d : Nat) (x1 x2 x3 : Int) (μ : amM) : RD cr2 (d + 1) 187 [71, x1, x2, x3] μ = bnd (RD cr2 d 151 [x1, 1, 8] μ) (fun v1 μ1 => (if v1 = 0 then At cr2 d 187 1 [] [71, 0, 0, 0, 0] μ1 else bnd (RD cr2 d 151 [x2, 1, 8] μ1) (fun v2 μ2 => (if v2 = 0 then At cr2 d 187 1 [] [71, 0, 0, 0, 0] μ2 else bnd (RD cr2 d 151 [x3, 0, 2] μ2) (fun v3 μ3 => (if v3 = 0 then At cr2 d 187 1 [] [71, 0, 0, 0, 0] μ3 else At cr2 d 187 2 [] [71, x1, x2, x3, 0] μ3)))))) := B187_0 d x1 x2 x3 μ
set_option maxRecDepth 20000 in
theorem M188 (d : Nat) (x1 x2 : Int) (μ : amM) : RD cr2 (d + 1) 188 [71, x1, x2] μ = bnd (RD cr2 d 151 [x1, 0, 1] μ) (fun v1 μ1 => (if v1 = 0 then At cr2 d 188 1 [] [71, 0, 0, 0] μ1 else bnd (RD cr2 d 151 [x2, 0, 4] μ1) (fun v2 μ2 => (if v2 = 0 then At cr2 d 188 1 [] [71, 0, 0, 0] μ2 else At cr2 d 188 2 [] [71, x1, x2, 0] μ2)))) := B188_0 d x1 x2 μ
set_option maxRecDepth 20000 in
theorem M189 (d : Nat) (x1 x2 x3 : Int) (μ : amM) : RD cr2 (d + 1) 189 [71, x1, x2, x3] μ = bnd (RD cr2 d 182 [71, x1, x2, x3] μ) (fun _ μ1 => bnd (RD cr2 d 175 [71] μ1) (fun _ μ2 => bnd (RD cr2 d 179 [71, x1] μ2) (fun v1 μ3 => (if v1 = 0 then At cr2 d 189 1 [] [71, x1, 0, 0] μ3 else some (1, μ3))))) := B189_0 d x1 x2 x3 μ
set_option maxRecDepth 20000 in
theorem M190 (d : Nat) (x1 x2 x3 : Int) (μ : amM) : RD cr2 (d + 1) 190 [71, x1, x2, x3] μ = bnd (RD cr2 d 154 [71, x1] μ) (fun v1 μ1 => (if v1 = 0 then At cr2 d 190 1 [] [71, 0, 0, 0] μ1 else bnd (RD cr2 d 151 [x2, 0, 69] μ1) (fun v2 μ2 => (if v2 = 0 then At cr2 d 190 1 [] [71, 0, 0, 0] μ2 else bnd (RD cr2 d 151 [x3, 0, 80] μ2) (fun v3 μ3 => (if v3 = 0 then At cr2 d 190 1 [] [71, 0, 0, 0] μ3 else At cr2 d 190 2 [] [71, x1, x2, x3] μ3)))))) := B190_0 d x1 x2 x3 μ
set_option maxRecDepth 20000 in
theorem M191 (d : Nat) (x1 : Int) (μ : amM) : RD cr2 (d + 1) 191 [71, x1] μ = At cr2 d 191 1 [] [71, x1, 0, 0] μ := B191_0 d x1 μ
set_option maxRecDepth 20000 in
theorem M192 (d : Nat) (x1 : Int) (μ : amM) : RD cr2 (d + 1) 192 [71, x1] μ = bnd (RD cr2 d 154 [71, x1] μ) (fun v1 μ1 => (if v1 = 0 then bnd (RD cr2 d 150 [71, 1] μ1) (fun v2 μ2 => some (v2, μ2)) else At cr2 d 192 1 [] [71, x1, 0] μ1)) := B192_0 d x1 μ
set_option maxRecDepth 20000 in
theorem M193 (d : Nat) (x1 x2 : Int) (μ : amM) : RD cr2 (d + 1) 193 [71, x1, x2] μ = bnd (RD cr2 d 154 [71, x1] μ) (fun v1 μ1 => (if v1 = 0 then At cr2 d 193 1 [] [71, 0, 0] μ1 else bnd (RD cr2 d 151 [x2, 0, 11] μ1) (fun v2 μ2 => (if v2 = 0 then At cr2 d 193 1 [] [71, 0, 0] μ2 else At cr2 d 193 2 [] [71, x1, x2] μ2)))) := B193_0 d x1 x2 μ
set_option maxRecDepth 20000 in
theorem M194 (d : Nat) (x1 x2 : Int) (μ : amM) : RD cr2 (d + 1) 194 [71, x1, x2] μ = bnd (RD cr2 d 154 [71, x1] μ) (fun v1 μ1 => (if v1 = 0 then At cr2 d 194 1 [] [71, 0, 0, 0] μ1 else bnd (RD cr2 d 151 [x2, 0, 69] μ1) (fun v2 μ2 => (if v2 = 0 then At cr2 d 194 1 [] [71, 0, 0, 0] μ2 else At cr2 d 194 2 [] [71, x1, x2, 0] μ2)))) := B194_0 d x1 x2 μ
set_option maxRecDepth 20000 in
theorem M195 (d : Nat) (x0 : Int) (μ : amM) : RD cr2 (d + 1) 195 [x0] μ = (if x0 < 4 then At cr2 d 195 2 [0] [0] μ else At cr2 d 195 1 [] [x0] μ) := B195_0 d x0 μ
set_option maxRecDepth 20000 in
theorem M196 (d : Nat) (x1 x2 : Int) (μ : amM) : RD cr2 (d + 1) 196 [71, x1, x2] μ = bnd (RD cr2 d 154 [71, x1] μ) (fun v1 μ1 => (if v1 = 0 then At cr2 d 196 1 [] [71, 0, 0, 0] μ1 else bnd (RD cr2 d 151 [x2, 0, 6] μ1) (fun v2 μ2 => (if v2 = 0 then At cr2 d 196 1 [] [71, 0, 0, 0] μ2 else At cr2 d 196 2 [] [71, x1, x2, 0] μ2)))) := B196_0 d x1 x2 μ
set_option maxRecDepth 20000 in
theorem M197 (d : Nat) (x0 x1 : Int) (μ : amM) : RD cr2 (d + 1) 197 [x0, x1] μ = bnd (RD cr2 d 151 [x0, 0, 3] μ) (fun v1 μ1 => (if v1 = 0 then At cr2 d 197 1 [] [0, 0] μ1 else bnd (RD cr2 d 151 [x1, 0, 2] μ1) (fun v2 μ2 => (if v2 = 0 then At cr2 d 197 1 [] [0, 0] μ2 else At cr2 d 197 2 [1] [0, 0] μ2)))) := B197_0 d x0 x1 μ
set_option maxRecDepth 20000 in
theorem M198 (d : Nat) (x1 : Int) (μ : amM) : RD cr2 (d + 1) 198 [71, x1] μ = bnd (RD cr2 d 152 [(w32 ((μ 72 6) + x1)), 0, 999999] μ) (fun v2 μ1 => wf 72 6 μ1 v2 (fun μ2 => some (0, μ2))) := B198_0 d x1 μ
set_option maxRecDepth 20000 in
theorem M199 (d : Nat) (x1 x2 x3 : Int) (μ : amM) : RD cr2 (d + 1) 199 [71, x1, x2, x3] μ = bnd (RD cr2 d 154 [71, x1] μ) (fun v1 μ1 => (if v1 = 0 then At cr2 d 199 1 [] [71, 0, 0, 0, 0] μ1 else bnd (RD cr2 d 197 [x2, x3] μ1) (fun v2 μ2 => (if v2 = 0 then At cr2 d 199 1 [] [71, 0, 0, 0, 0] μ2 else At cr2 d 199 2 [] [71, x1, x2, x3, 0] μ2)))) := B199_0 d x1 x2 x3 μ
set_option maxRecDepth 20000 in
theorem M200 (d : Nat) (x1 x2 : Int) (μ : amM) : RD cr2 (d + 1) 200 [71, x1, x2] μ = bnd (RD cr2 d 154 [71, x1] μ) (fun v1 μ1 => (if v1 = 0 then At cr2 d 200 1 [] [71, 0, 0] μ1 else bnd (RD cr2 d 154 [71, x2] μ1) (fun v2 μ2 => (if v2 = 0 then At cr2 d 200 1 [] [71, 0, 0] μ2 else At cr2 d 200 2 [] [71, x1, x2] μ2)))) := B200_0 d x1 x2 μ
set_option maxRecDepth 20000 in
theorem M201 (d : Nat) (x1 x2 : Int) (μ : amM) : RD cr2 (d + 1) 201 [71, x1, x2] μ = At cr2 d 201 1 [] [71, x1, x2, 1, 0, 0] μ := B201_0 d x1 x2 μ
set_option maxRecDepth 20000 in
theorem M202 (d : Nat) (x1 x2 : Int) (μ : amM) : RD cr2 (d + 1) 202 [71, x1, x2] μ = At cr2 d 202 1 [] [71, x1, 0, 0, x2, 3] μ := B202_0 d x1 x2 μ
set_option maxRecDepth 20000 in
theorem M203 (d : Nat) (x1 : Int) (μ : amM) : RD cr2 (d + 1) 203 [71, x1] μ = At cr2 d 203 1 [] [71, x1, 0, 0] μ := B203_0 d x1 μ
set_option maxRecDepth 20000 in
theorem M204 (d : Nat) (x1 x2 : Int) (μ : amM) : RD cr2 (d + 1) 204 [71, x1, x2] μ = bnd (RD cr2 d 154 [71, x1] μ) (fun v1 μ1 => (if v1 = 0 then At cr2 d 204 1 [] [71, 0, 0, 0, 0] μ1 else (if x2 < (-1) then At cr2 d 204 1 [] [71, 0, 0, 0, 0] μ1 else At cr2 d 204 2 [] [71, x1, x2, 0, 0] μ1))) := B204_0 d x1 x2 μ
set_option maxRecDepth 20000 in
theorem M205 (d : Nat) (x1 : Int) (μ : amM) : RD cr2 (d + 1) 205 [71, x1] μ = (if x1 < (-1) then bnd (RD cr2 d 150 [71, 1] μ) (fun v1 μ1 => some (v1, μ1)) else At cr2 d 205 1 [] [71, x1, 0, 0] μ) := B205_0 d x1 μ
set_option maxRecDepth 20000 in
theorem M206 (d : Nat) (x1 x2 x3 : Int) (μ : amM) : RD cr2 (d + 1) 206 [71, x1, x2, x3] μ = (if (μ 71 21) = (w32 ((w32 (4 * x1)) + x2)) then At cr2 d 206 2 [1] [71, x1, x2, x3, 0, 0] μ else At cr2 d 206 1 [] [71, x1, x2, x3, 0, 0] μ) := B206_0 d x1 x2 x3 μ
set_option maxRecDepth 20000 in
theorem M207 (d : Nat) (x1 : Int) (μ : amM) : RD cr2 (d + 1) 207 [71, x1] μ = At cr2 d 207 1 [] [71, x1, (-1), 0, 0, 1, 0, 0, 0, 0] μ := B207_0 d x1 μ
set_option maxRecDepth 20000 in
theorem M208 (d : Nat) (x1 : Int) (μ : amM) : RD cr2 (d + 1) 208 [71, x1] μ = At cr2 d 208 1 [] [71, x1, 0, 0] μ := B208_0 d x1 μ
set_option maxRecDepth 20000 in
theorem M209 (d : Nat) (x1 x2 x3 : Int) (μ : amM) : RD cr2 (d + 1) 209 [71, x1, x2, x3] μ = bnd (RD cr2 d 157 [71, x1, x2] μ) (fun v1 μ1 => (if v1 = x3 then At cr2 d 209 1 [] [71, x1, x2, x3, v1, 0, 0] μ1 else bnd (RD cr2 d 156 [71, x1] μ1) (fun v2 μ2 => (if v2 = 5 then some (0, μ2) else At cr2 d 209 1 [] [71, x1, x2, x3, v1, 0, 0] μ2)))) := B209_0 d x1 x2 x3 μ
set_option maxRecDepth 20000 in
theorem M210 (d : Nat) (x1 x2 x3 x4 : Int) (μ : amM) : RD cr2 (d + 1) 210 [71, x1, x2, x3, x4] μ = bnd (RD cr2 d 154 [71, x1] μ) (fun v1 μ1 => (if v1 = 0 then At cr2 d 210 1 [] [71, 0, 0, 0, 0] μ1 else bnd (RD cr2 d 197 [x2, x3] μ1) (fun v2 μ2 => (if v2 = 0 then At cr2 d 210 1 [] [71, 0, 0, 0, 0] μ2 else bnd (RD cr2 d 151 [x4, 0, 1] μ2) (fun v3 μ3 => (if v3 = 0 then At cr2 d 210 1 [] [71, 0, 0, 0, 0] μ3 else At cr2 d 210 2 [] [71, x1, x2, x3, x4] μ3)))))) := B210_0 d x1 x2 x3 x4 μ
set_option maxRecDepth 20000 in
theorem M211 (d : Nat) (μ : amM) : RD cr2 (d + 1) 211 [71] μ = bnd (RD cr2 d 175 [71] μ) (fun _ μ1 => wf 71 21 μ1 (-1) (fun μ2 => bnd (RD cr2 d 208 [71, 0] μ2) (fun v1 μ3 => (if v1 = 0 then At cr2 d 211 1 [] [71] μ3 else At cr2 d 211 2 [(μ3 71 22)] [0] μ3)))) := B211_0 d  μ
set_option maxRecDepth 20000 in
theorem M212 (d : Nat) (x1 : Int) (μ : amM) : RD cr2 (d + 1) 212 [71, x1] μ = wf 83 0 μ x1 (fun μ1 => wf 71 25 μ1 1 (fun μ2 => At cr2 d 212 1 [] [71, x1, 0, 0] μ2)) := B212_0 d x1 μ
set_option maxRecDepth 20000 in
theorem M213 (d : Nat) (x1 x2 x3 : Int) (μ : amM) : RD cr2 (d + 1) 213 [71, x1, x2, x3] μ = bnd (RD cr2 d 177 [71, x1] μ) (fun v1 μ1 => (if v1 = 0 then At cr2 d 213 1 [] [0, 0, 0, 0] μ1 else bnd (RD cr2 d 157 [71, x1, x2] μ1) (fun v2 μ2 => (if v2 = x3 then At cr2 d 213 1 [] [0, 0, 0, 0] μ2 else At cr2 d 213 2 [1] [0, 0, 0, 0] μ2)))) := B213_0 d x1 x2 x3 μ
set_option maxRecDepth 20000 in
theorem M214 (d : Nat) (x1 x2 x3 : Int) (μ : amM) : RD cr2 (d + 1) 214 [71, x1, x2, x3] μ = bnd (RD cr2 d 213 [71, x1, x2, x3] μ) (fun v1 μ1 => (if v1 = 0 then some (0, μ1) else At cr2 d 214 1 [] [71, x1, x2, x3, 0, 0] μ1)) := B214_0 d x1 x2 x3 μ
set_option maxRecDepth 20000 in
theorem M215 (d : Nat) (x1 x2 x3 x4 : Int) (μ : amM) : RD cr2 (d + 1) 215 [71, x1, x2, x3, x4] μ = (if x1 = 0 then bnd (RD cr2 d 214 [71, x2, x3, x4] μ) (fun v1 μ1 => rb v1 μ1) else At cr2 d 215 1 [] [71, x1, x2, x3, x4, 0, 0, 0, 0, 0] μ) := B215_0 d x1 x2 x3 x4 μ
set_option maxRecDepth 20000 in
theorem M216 (d : Nat) (x1 x2 x3 : Int) (μ : amM) : RD cr2 (d + 1) 216 [71, x1, x2, x3] μ = At cr2 d 216 1 [] [71, x1, x2, x3, 0, 0, 0, 0, 0] μ := B216_0 d x1 x2 x3 μ
set_option maxRecDepth 20000 in
theorem M217 (d : Nat) (x1 x2 x3 : Int) (μ : amM) : RD cr2 (d + 1) 217 [71, x1, x2, x3] μ = bnd (RD cr2 d 154 [71, x1] μ) (fun v1 μ1 => (if v1 = 0 then At cr2 d 217 1 [] [71, 0, 0, 0, 0] μ1 else bnd (RD cr2 d 197 [x2, x3] μ1) (fun v2 μ2 => (if v2 = 0 then At cr2 d 217 1 [] [71, 0, 0, 0, 0] μ2 else At cr2 d 217 2 [] [71, x1, x2, x3, 0] μ2)))) := B217_0 d x1 x2 x3 μ
set_option maxRecDepth 20000 in
theorem M218 (d : Nat) (x0 x1 : Int) (μ : amM) : RD cr2 (d + 1) 218 [x0, x1] μ = At cr2 d 218 1 [] [0, 0, 0, x0, x1, 0] μ := B218_0 d x0 x1 μ
set_option maxRecDepth 20000 in
theorem M219 (d : Nat) (μ : amM) : RD cr2 (d + 1) 219 [71] μ = At cr2 d 219 1 [] [71, 0, 0] μ := B219_0 d  μ
set_option maxRecDepth 20000 in
theorem M220 (d : Nat) (μ : amM) : RD cr2 (d + 1) 220 [71] μ = At cr2 d 220 1 [] [71, 0, 0] μ := B220_0 d  μ
set_option maxRecDepth 20000 in
theorem M221 (d : Nat) (x1 : Int) (μ : amM) : RD cr2 (d + 1) 221 [71, x1] μ = bnd (RD cr2 d 151 [x1, 1, 9] μ) (fun v1 μ1 => (if v1 = 0 then bnd (RD cr2 d 150 [71, 1] μ1) (fun v2 μ2 => some (v2, μ2)) else At cr2 d 221 1 [] [71, x1, 0, 0, 0] μ1)) := B221_0 d x1 μ
set_option maxRecDepth 20000 in
theorem M222 (d : Nat) (x1 : Int) (μ : amM) : RD cr2 (d + 1) 222 [71, x1] μ = bnd (RD cr2 d 151 [x1, 3, 9] μ) (fun v1 μ1 => (if v1 = 0 then bnd (RD cr2 d 150 [71, 1] μ1) (fun v2 μ2 => some (v2, μ2)) else At cr2 d 222 1 [] [71, x1, 0, 0, 0, 0] μ1)) := B222_0 d x1 μ
set_option maxRecDepth 20000 in
theorem M223 (d : Nat) (x1 x2 x3 x4 : Int) (μ : amM) : RD cr2 (d + 1) 223 [71, x1, x2, x3, x4] μ = (if x2 = 81 then (if x4 = 81 then bnd (RD cr2 d 177 [71, x1] μ) (fun v1 μ1 => (if v1 = 0 then At cr2 d 223 1 [] [0, 0, 0, 0, 0] μ1 else bnd (RD cr2 d 177 [71, x3] μ1) (fun v2 μ2 => (if v2 = 0 then At cr2 d 223 1 [] [0, 0, 0, 0, 0] μ2 else bnd (RD cr2 d 176 [71, x1, x3] μ2) (fun v3 μ3 => bnd (RD cr2 d 151 [v3, (μ3 72 3), (μ3 72 4)] μ3) (fun v6 μ4 => (if v6 = 0 then At cr2 d 223 2 [] [0, 0, 0, 0, 0] μ4 else At cr2 d 223 1 [] [0, 0, 0, 0, 0] μ4))))))) else At cr2 d 223 4 [] [71, x1, x2, x3, x4] μ) else At cr2 d 223 4 [] [71, x1, x2, x3, x4] μ) := B223_0 d x1 x2 x3 x4 μ
set_option maxRecDepth 20000 in
theorem M224 (d : Nat) (x1 x2 : Int) (μ : amM) : RD cr2 (d + 1) 224 [71, x1, x2] μ = bnd (RD cr2 d 155 [71, x1] μ) (fun v1 μ1 => (if x2 < 81 then At cr2 d 224 2 [1, v1] [0, 0, 0] μ1 else At cr2 d 224 1 [v1] [0, 0, 0] μ1)) := B224_0 d x1 x2 μ
set_option maxRecDepth 20000 in
theorem M225 (d : Nat) (x1 : Int) (μ : amM) : RD cr2 (d + 1) 225 [71, x1] μ = At cr2 d 225 1 [] [71, x1, (μ 72 1), 0, 0, 0, 0] μ := B225_0 d x1 μ
set_option maxRecDepth 20000 in
theorem M226 (d : Nat) (μ : amM) : RD cr2 (d + 1) 226 [71] μ = (if (μ 72 0) = 1 then bnd (RD cr2 d 153 [71] μ) (fun v2 μ1 => (if 9 < v2 then At cr2 d 226 1 [] [71, 0, 0, 0] μ1 else At cr2 d 226 2 [] [71, 0, 0, 0] μ1)) else At cr2 d 226 1 [] [71, 0, 0, 0] μ) := B226_0 d  μ
set_option maxRecDepth 20000 in
theorem M227 (d : Nat) (μ : amM) : RD cr2 (d + 1) 227 [71] μ = wf 72 7 μ (w32 ((w32 ((μ 72 7) * 1103515245)) + 12345)) (fun μ1 => some ((bUshr (μ1 72 7) 8), μ1)) := B227_0 d  μ
set_option maxRecDepth 20000 in
theorem M228 (d : Nat) (μ : amM) : RD cr2 (d + 1) 228 [71] μ = At cr2 d 228 1 [] [71, 0] μ := B228_0 d  μ
set_option maxRecDepth 20000 in
theorem M229 (d : Nat) (μ : amM) : RD cr2 (d + 1) 229 [71] μ = At cr2 d 229 1 [] [71, 0] μ := B229_0 d  μ
set_option maxRecDepth 20000 in
theorem M230 (d : Nat) (x1 x2 : Int) (μ : amM) : RD cr2 (d + 1) 230 [71, x1, x2] μ = At cr2 d 230 1 [] [71, x1, x2, 0, 0] μ := B230_0 d x1 x2 μ
set_option maxRecDepth 20000 in
theorem M231 (d : Nat) (x1 x2 : Int) (μ : amM) : RD cr2 (d + 1) 231 [71, x1, x2] μ = bnd (RD cr2 d 197 [x1, x2] μ) (fun v1 μ1 => (if v1 = 0 then At cr2 d 231 1 [] [71, 0, 0] μ1 else bnd (RD cr2 d 230 [71, x1, x2] μ1) (fun v2 μ2 => At cr2 d 231 2 [v2] [0, 0, 0] μ2))) := B231_0 d x1 x2 μ
set_option maxRecDepth 20000 in
theorem M232 (d : Nat) (x1 x2 : Int) (μ : amM) : RD cr2 (d + 1) 232 [71, x1, x2] μ = bnd (RD cr2 d 228 [71] μ) (fun _ μ1 => bnd (RD cr2 d 230 [71, x1, x2] μ1) (fun v1 μ2 => bnd (RD cr2 d 175 [71] μ2) (fun _ μ3 => bnd (RD cr2 d 180 [71] μ3) (fun _ μ4 => bnd (RD cr2 d 229 [71] μ4) (fun _ μ5 => some ((μ5 71 14), μ5)))))) := B232_0 d x1 x2 μ
set_option maxRecDepth 20000 in
theorem M233 (d : Nat) (x1 x2 : Int) (μ : amM) : RD cr2 (d + 1) 233 [71, x1, x2] μ = bnd (RD cr2 d 197 [x1, x2] μ) (fun v1 μ1 => (if v1 = 0 then At cr2 d 233 1 [] [71, 0, 0] μ1 else bnd (RD cr2 d 232 [71, x1, x2] μ1) (fun v2 μ2 => At cr2 d 233 2 [v2] [0, 0, 0] μ2))) := B233_0 d x1 x2 μ
set_option maxRecDepth 20000 in
theorem M234 (d : Nat) (μ : amM) : RD cr2 (d + 1) 234 [71] μ = At cr2 d 234 1 [] [71, 0, (-1), 0, 0] μ := B234_0 d  μ
set_option maxRecDepth 20000 in
theorem M235 (d : Nat) (μ : amM) : RD cr2 (d + 1) 235 [71] μ = bnd (RD cr2 d 175 [71] μ) (fun _ μ1 => At cr2 d 235 1 [] [71, 0, 0, 0, 0] μ1) := B235_0 d  μ
set_option maxRecDepth 20000 in
theorem M236 (d : Nat) (μ : amM) : RD cr2 (d + 1) 236 [71] μ = At cr2 d 236 1 [] [71, 0, 0] μ := B236_0 d  μ
set_option maxRecDepth 20000 in
theorem M237 (d : Nat) (x1 : Int) (μ : amM) : RD cr2 (d + 1) 237 [71, x1] μ = bnd (RD cr2 d 151 [x1, 0, 1] μ) (fun v1 μ1 => (if v1 = 0 then bnd (RD cr2 d 150 [71, 1] μ1) (fun v2 μ2 => some (v2, μ2)) else At cr2 d 237 1 [] [71, x1, 0, 0, 0, 0, 0, 0, 0, 0, 0] μ1)) := B237_0 d x1 μ
set_option maxRecDepth 20000 in
theorem M238 (d : Nat) (μ : amM) : RD cr2 (d + 1) 238 [71] μ = bnd (RD cr2 d 227 [71] μ) (fun v1 μ1 => bnd (RD cr2 d 153 [71] μ1) (fun v2 μ2 => if v2 = 0 then none else bnd (RD cr2 d 227 [71] μ2) (fun v3 μ3 => bnd (RD cr2 d 227 [71] μ3) (fun v4 μ4 => wf 72 5 μ4 (w32 ((μ4 72 5) + 1)) (fun μ5 => bnd (RD cr2 d 213 [71, (v1.tmod v2), (v3.tmod 4), (v4.tmod 3)] μ5) (fun v6 μ6 => (if v6 = 0 then some (0, μ6) else At cr2 d 238 1 [] [71, (v1.tmod v2), (v3.tmod 4), (v4.tmod 3), 0] μ6))))))) := B238_0 d  μ
set_option maxRecDepth 20000 in
theorem M239 (d : Nat) (x1 : Int) (μ : amM) : RD cr2 (d + 1) 239 [71, x1] μ = bnd (RD cr2 d 151 [x1, 1, 200] μ) (fun v1 μ1 => (if v1 = 0 then bnd (RD cr2 d 150 [71, 1] μ1) (fun v2 μ2 => some (v2, μ2)) else At cr2 d 239 1 [] [71, x1, 0, 0] μ1)) := B239_0 d x1 μ
set_option maxRecDepth 20000 in
theorem M240 (d : Nat) (x1 : Int) (μ : amM) : RD cr2 (d + 1) 240 [71, x1] μ = wf 72 7 μ x1 (fun μ1 => some ((μ 72 7), μ1)) := B240_0 d x1 μ
set_option maxRecDepth 20000 in
theorem M241 (d : Nat) (x1 : Int) (μ : amM) : RD cr2 (d + 1) 241 [71, x1] μ = (if (μ 71 33) < 40 then wr 90 40 μ (μ 71 33) x1 (fun μ1 => wf 71 33 μ1 (w32 ((μ1 71 33) + 1)) (fun μ2 => At cr2 d 241 1 [] [0, 0] μ2)) else At cr2 d 241 1 [] [0, 0] μ) := B241_0 d x1 μ
set_option maxRecDepth 20000 in
theorem M242 (d : Nat) (μ : amM) : RD cr2 (d + 1) 242 [71] μ = bnd (RD cr2 d 156 [71, (μ 71 34)] μ) (fun v1 μ1 => some (v1, μ1)) := B242_0 d  μ
set_option maxRecDepth 20000 in
theorem M243 (d : Nat) (x1 x2 : Int) (μ : amM) : RD cr2 (d + 1) 243 [71, x1, x2] μ = (if x1 = 0 then At cr2 d 243 1 [] [71, 0, x2] μ else if x1 = 2 then At cr2 d 243 2 [] [71, 0, x2] μ else At cr2 d 243 3 [] [71, x1, x2] μ) := B243_0 d x1 x2 μ
set_option maxRecDepth 20000 in
theorem M244 (d : Nat) (x1 x2 : Int) (μ : amM) : RD cr2 (d + 1) 244 [71, x1, x2] μ = (if x1 = 0 then At cr2 d 244 1 [] [71, 0, x2, 0] μ else if x1 = 1 then At cr2 d 244 2 [] [71, 0, x2, 0] μ else if x1 = 2 then At cr2 d 244 4 [] [71, x1, x2, 0] μ else if x1 = 3 then At cr2 d 244 4 [] [71, x1, x2, 0] μ else if x1 = 4 then At cr2 d 244 3 [] [71, 0, x2, 0] μ else At cr2 d 244 4 [] [71, x1, x2, 0] μ) := B244_0 d x1 x2 μ
set_option maxRecDepth 20000 in
theorem M245 (d : Nat) (x1 x2 : Int) (μ : amM) : RD cr2 (d + 1) 245 [71, x1, x2] μ = (if x1 = 0 then At cr2 d 245 1 [] [71, 0, x2] μ else if x1 = 3 then At cr2 d 245 2 [] [71, 0, x2] μ else if x1 = 6 then At cr2 d 245 3 [] [71, 0, x2] μ else At cr2 d 245 4 [] [71, x1, x2] μ) := B245_0 d x1 x2 μ
set_option maxRecDepth 20000 in
theorem M246 (d : Nat) (x1 x2 : Int) (μ : amM) : RD cr2 (d + 1) 246 [71, x1, x2] μ = (if x1 = 0 then At cr2 d 246 1 [] [71, 0, x2, 0] μ else if x1 = 5 then At cr2 d 246 2 [] [71, 0, x2, 0] μ else if x1 = 6 then At cr2 d 246 3 [] [71, 0, x2, 0] μ else At cr2 d 246 4 [] [71, x1, x2, 0] μ) := B246_0 d x1 x2 μ
set_option maxRecDepth 20000 in
theorem M247 (d : Nat) (x1 x2 x3 : Int) (μ : amM) : RD cr2 (d + 1) 247 [71, x1, x2, x3] μ = bnd (RD cr2 d 154 [71, x1] μ) (fun v1 μ1 => (if v1 = 0 then At cr2 d 247 1 [] [71, 0, 0, 0, 0] μ1 else bnd (RD cr2 d 151 [x2, 0, 3] μ1) (fun v2 μ2 => (if v2 = 0 then At cr2 d 247 1 [] [71, 0, 0, 0, 0] μ2 else At cr2 d 247 2 [] [71, x1, x2, x3, 0] μ2)))) := B247_0 d x1 x2 x3 μ
set_option maxRecDepth 20000 in
theorem M248 (d : Nat) (x1 : Int) (μ : amM) : RD cr2 (d + 1) 248 [71, x1] μ = bnd (RD cr2 d 151 [x1, 0, (w32 ((μ 71 33) - 1))] μ) (fun v1 μ1 => (if v1 = 0 then At cr2 d 248 1 [] [71, 0] μ1 else rd 90 40 μ1 x1 (fun v2 => At cr2 d 248 2 [v2] [0, 0] μ1))) := B248_0 d x1 μ
set_option maxRecDepth 20000 in
theorem M249 (d : Nat) (x0 : Int) (μ : amM) : RD cr2 (d + 1) 249 [x0] μ = bnd (RD cr2 d 151 [x0, 0, 3] μ) (fun v1 μ1 => rb v1 μ1) := B249_0 d x0 μ
set_option maxRecDepth 20000 in
theorem M250 (d : Nat) (x1 x2 x3 : Int) (μ : amM) : RD cr2 (d + 1) 250 [71, x1, x2, x3] μ = bnd (RD cr2 d 249 [x1] μ) (fun v1 μ1 => (if v1 = 0 then At cr2 d 250 1 [] [71, 0, 0, 0, 0] μ1 else (if x2 = 0 then At cr2 d 250 2 [] [71, x1, x2, x3, 0] μ1 else (if x2 = 8 then At cr2 d 250 2 [] [71, x1, x2, x3, 0] μ1 else (if x2 = 16 then At cr2 d 250 2 [] [71, x1, x2, x3, 0] μ1 else (if x2 = 32 then At cr2 d 250 2 [] [71, x1, x2, x3, 0] μ1 else At cr2 d 250 1 [] [71, 0, 0, 0, 0] μ1)))))) := B250_0 d x1 x2 x3 μ
set_option maxRecDepth 20000 in
theorem M251 (d : Nat) (x1 x2 x3 : Int) (μ : amM) : RD cr2 (d + 1) 251 [71, x1, x2, x3] μ = bnd (RD cr2 d 249 [x1] μ) (fun v1 μ1 => (if v1 = 0 then bnd (RD cr2 d 150 [71, 1] μ1) (fun v2 μ2 => some (v2, μ2)) else At cr2 d 251 1 [] [71, x1, x2, x3] μ1)) := B251_0 d x1 x2 x3 μ
set_option maxRecDepth 20000 in
theorem M252 (d : Nat) (x1 x2 x3 x4 x5 : Int) (μ : amM) : RD cr2 (d + 1) 252 [71, x1, x2, x3, x4, x5] μ = bnd (RD cr2 d 249 [x1] μ) (fun v1 μ1 => (if v1 = 0 then At cr2 d 252 1 [] [71, 0, 0, 0, 0, 0, 0] μ1 else bnd (RD cr2 d 249 [x3] μ1) (fun v2 μ2 => (if v2 = 0 then At cr2 d 252 1 [] [71, 0, 0, 0, 0, 0, 0] μ2 else At cr2 d 252 2 [] [71, x1, x2, x3, x4, x5, 0] μ2)))) := B252_0 d x1 x2 x3 x4 x5 μ
set_option maxRecDepth 20000 in
theorem M253 (d : Nat) (x1 : Int) (μ : amM) : RD cr2 (d + 1) 253 [71, x1] μ = bnd (RD cr2 d 249 [x1] μ) (fun v1 μ1 => (if v1 = 0 then bnd (RD cr2 d 150 [71, 1] μ1) (fun v2 μ2 => some (v2, μ2)) else At cr2 d 253 1 [] [71, x1, 0, 0, 0, 0] μ1)) := B253_0 d x1 μ
set_option maxRecDepth 20000 in
theorem M254 (d : Nat) (x1 : Int) (μ : amM) : RD cr2 (d + 1) 254 [71, x1] μ = bnd (RD cr2 d 227 [71] μ) (fun v1 μ1 => if x1 = 0 then none else some ((v1.tmod x1), μ1)) := B254_0 d x1 μ
set_option maxRecDepth 20000 in
theorem M255 (d : Nat) (x1 x2 : Int) (μ : amM) : RD cr2 (d + 1) 255 [71, x1, x2] μ = At cr2 d 255 1 [] [71, x1, x2, 0, 0] μ := B255_0 d x1 x2 μ
set_option maxRecDepth 20000 in
theorem M256 (d : Nat) (x1 : Int) (μ : amM) : RD cr2 (d + 1) 256 [71, x1] μ = bnd (RD cr2 d 249 [x1] μ) (fun v1 μ1 => (if v1 = 0 then bnd (RD cr2 d 150 [71, 1] μ1) (fun v2 μ2 => some (v2, μ2)) else At cr2 d 256 1 [] [71, x1, 0, 0, 0] μ1)) := B256_0 d x1 μ
set_option maxRecDepth 20000 in
theorem M257 (d : Nat) (x1 x2 : Int) (μ : amM) : RD cr2 (d + 1) 257 [71, x1, x2] μ = At cr2 d 257 1 [] [71, x1, x2, 0, 0] μ := B257_0 d x1 x2 μ
set_option maxRecDepth 20000 in
theorem M258 (d : Nat) (x1 : Int) (μ : amM) : RD cr2 (d + 1) 258 [71, x1] μ = bnd (RD cr2 d 249 [x1] μ) (fun v1 μ1 => (if v1 = 0 then bnd (RD cr2 d 150 [71, 1] μ1) (fun v2 μ2 => some (v2, μ2)) else At cr2 d 258 1 [] [71, x1, 0] μ1)) := B258_0 d x1 μ
set_option maxRecDepth 20000 in
theorem M259 (d : Nat) (μ : amM) : RD cr2 (d + 1) 259 [71] μ = At cr2 d 259 1 [] [71, 0] μ := B259_0 d  μ
set_option maxRecDepth 20000 in
theorem M260 (d : Nat) (μ : amM) : RD cr2 (d + 1) 260 [71] μ = (if (μ 71 2) = 0 then bnd (RD cr2 d 150 [71, 2] μ) (fun v1 μ1 => some (v1, μ1)) else At cr2 d 260 1 [] [71, 0] μ) := B260_0 d  μ
set_option maxRecDepth 20000 in
theorem M261 (d : Nat) (x1 : Int) (μ : amM) : RD cr2 (d + 1) 261 [71, x1] μ = (if (μ 72 9) = 20 then bnd (RD cr2 d 150 [71, 4] μ) (fun v2 μ1 => some (v2, μ1)) else At cr2 d 261 1 [] [71, x1] μ) := B261_0 d x1 μ
set_option maxRecDepth 20000 in
theorem M262 (d : Nat) (μ : amM) : RD cr2 (d + 1) 262 [71] μ = wf 72 9 μ 0 (fun μ1 => bnd (RD cr2 d 175 [71] μ1) (fun _ μ2 => At cr2 d 262 1 [] [71, (μ 72 9), 0] μ2)) := B262_0 d  μ
set_option maxRecDepth 20000 in
theorem M263 (d : Nat) (x1 : Int) (μ : amM) : RD cr2 (d + 1) 263 [71, x1] μ = (if x1 = 0 then At cr2 d 263 1 [] [71, 0] μ else if x1 = 1 then At cr2 d 263 2 [] [71, 0] μ else if x1 = 2 then At cr2 d 263 3 [] [71, 0] μ else if x1 = 3 then At cr2 d 263 4 [] [71, 0] μ else if x1 = 4 then At cr2 d 263 5 [] [71, 0] μ else if x1 = 5 then At cr2 d 263 6 [] [71, 0] μ else if x1 = 6 then At cr2 d 263 7 [] [71, 0] μ else if x1 = 7 then At cr2 d 263 8 [] [71, 0] μ else if x1 = 8 then At cr2 d 263 9 [] [71, 0] μ else if x1 = 9 then At cr2 d 263 10 [] [71, 0] μ else if x1 = 10 then At cr2 d 263 11 [] [71, 0] μ else if x1 = 11 then At cr2 d 263 12 [] [71, 0] μ else At cr2 d 263 13 [] [71, 0] μ) := B263_0 d x1 μ
set_option maxRecDepth 20000 in
theorem M264 (d : Nat) (x1 : Int) (μ : amM) : RD cr2 (d + 1) 264 [71, x1] μ = bnd (RD cr2 d 151 [x1, 1, 5] μ) (fun v1 μ1 => (if v1 = 0 then At cr2 d 264 1 [] [71, 0] μ1 else rd 74 6 μ1 x1 (fun v2 => At cr2 d 264 2 [v2] [0, 0] μ1))) := B264_0 d x1 μ
set_option maxRecDepth 20000 in
theorem M265 (d : Nat) (x0 : Int) (μ : amM) : RD cr2 (d + 1) 265 [x0] μ = some ((bAnd (w32 ((w32 ((bAnd (w32 ((w32 ((bAnd (w32 (x0 - (bAnd (bUshr x0 1) 1431655765))) 858993459) + (bAnd (bUshr (w32 (x0 - (bAnd (bUshr x0 1) 1431655765))) 2) 858993459))) + (bUshr (w32 ((bAnd (w32 (x0 - (bAnd (bUshr x0 1) 1431655765))) 858993459) + (bAnd (bUshr (w32 (x0 - (bAnd (bUshr x0 1) 1431655765))) 2) 858993459))) 4))) 252645135) + (bUshr (bAnd (w32 ((w32 ((bAnd (w32 (x0 - (bAnd (bUshr x0 1) 1431655765))) 858993459) + (bAnd (bUshr (w32 (x0 - (bAnd (bUshr x0 1) 1431655765))) 2) 858993459))) + (bUshr (w32 ((bAnd (w32 (x0 - (bAnd (bUshr x0 1) 1431655765))) 858993459) + (bAnd (bUshr (w32 (x0 - (bAnd (bUshr x0 1) 1431655765))) 2) 858993459))) 4))) 252645135) 8))) + (bUshr (w32 ((bAnd (w32 ((w32 ((bAnd (w32 (x0 - (bAnd (bUshr x0 1) 1431655765))) 858993459) + (bAnd (bUshr (w32 (x0 - (bAnd (bUshr x0 1) 1431655765))) 2) 858993459))) + (bUshr (w32 ((bAnd (w32 (x0 - (bAnd (bUshr x0 1) 1431655765))) 858993459) + (bAnd (bUshr (w32 (x0 - (bAnd (bUshr x0 1) 1431655765))) 2) 858993459))) 4))) 252645135) + (bUshr (bAnd (w32 ((w32 ((bAnd (w32 (x0 - (bAnd (bUshr x0 1) 1431655765))) 858993459) + (bAnd (bUshr (w32 (x0 - (bAnd (bUshr x0 1) 1431655765))) 2) 858993459))) + (bUshr (w32 ((bAnd (w32 (x0 - (bAnd (bUshr x0 1) 1431655765))) 858993459) + (bAnd (bUshr (w32 (x0 - (bAnd (bUshr x0 1) 1431655765))) 2) 858993459))) 4))) 252645135) 8))) 16))) 63), μ) := B265_0 d x0 μ
set_option maxRecDepth 20000 in
theorem M266 (d : Nat) (x0 x1 : Int) (μ : amM) : RD cr2 (d + 1) 266 [x0, x1] μ = (if x0 < x1 then At cr2 d 266 1 [] [0, x1] μ else At cr2 d 266 2 [x0] [0, 0] μ) := B266_0 d x0 x1 μ
set_option maxRecDepth 20000 in
theorem M267 (d : Nat) (x0 x1 : Int) (μ : amM) : RD cr2 (d + 1) 267 [x0, x1] μ = (if x1 < x0 then At cr2 d 267 1 [] [0, x1] μ else At cr2 d 267 2 [x0] [0, 0] μ) := B267_0 d x0 x1 μ
