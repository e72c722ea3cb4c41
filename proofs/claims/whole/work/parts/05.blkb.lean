/-! ===== the blocks, one by one, the second half ===== -/
set_option maxRecDepth 20000 in
theorem B162_3 (d : Nat) (x1 : Int) (μ : amM) : At cr2 d 162 3 [] [0, x1] μ = (if x1 = 118 then At cr2 d 162 5 [3] [0, 0] μ else At cr2 d 162 4 [] [0, 0] μ) := (At_eq cr2 d 162 3 _ _ _).trans rfl
set_option maxRecDepth 20000 in
theorem B162_4 (d : Nat) (μ : amM) : At cr2 d 162 4 [] [0, 0] μ = At cr2 d 162 5 [(-1)] [0, 0] μ := (At_eq cr2 d 162 4 _ _ _).trans rfl
set_option maxRecDepth 20000 in
theorem B162_5 (d : Nat) (s0 : Int) (μ : amM) : At cr2 d 162 5 [s0] [0, 0] μ = some (s0, μ) := (At_eq cr2 d 162 5 _ _ _).trans rfl
set_option maxRecDepth 20000 in
theorem B162_6 (d : Nat) (x1 : Int) (μ : amM) : At cr2 d 162 6 [] [0, x1] μ = (if x1 = 107 then At cr2 d 162 9 [0] [0, 0] μ else At cr2 d 162 7 [] [0, x1] μ) := (At_eq cr2 d 162 6 _ _ _).trans rfl
set_option maxRecDepth 20000 in
theorem B162_7 (d : Nat) (x1 : Int) (μ : amM) : At cr2 d 162 7 [] [0, x1] μ = (if x1 = 109 then At cr2 d 162 9 [1] [0, 0] μ else At cr2 d 162 8 [] [0, 0] μ) := (At_eq cr2 d 162 7 _ _ _).trans rfl
set_option maxRecDepth 20000 in
theorem B162_8 (d : Nat) (μ : amM) : At cr2 d 162 8 [] [0, 0] μ = At cr2 d 162 9 [(-1)] [0, 0] μ := (At_eq cr2 d 162 8 _ _ _).trans rfl
set_option maxRecDepth 20000 in
theorem B162_9 (d : Nat) (s0 : Int) (μ : amM) : At cr2 d 162 9 [s0] [0, 0] μ = some (s0, μ) := (At_eq cr2 d 162 9 _ _ _).trans rfl
set_option maxRecDepth 20000 in
theorem B163_0 (d : Nat) (μ : amM) : At cr2 d 163 0 [] [71, 0, 0] μ = bnd (RD cr2 d 164 [71] μ) (fun v1 μ1 => At cr2 d 163 1 [] [71, v1, 0] μ1) := (At_eq cr2 d 163 0 _ _ _).trans rfl
set_option maxRecDepth 20000 in
theorem B163_1 (d : Nat) (x1 : Int) (μ : amM) : At cr2 d 163 1 [] [71, x1, 0] μ = bnd (RD cr2 d 161 [71, 124] μ) (fun v1 μ1 => (if v1 = 0 then At cr2 d 163 5 [] [0, x1, 0] μ1 else bnd (RD cr2 d 164 [71] μ1) (fun v2 μ2 => (if x1 = 0 then (if v2 = 0 then At cr2 d 163 3 [] [71, 0, 0] μ2 else At cr2 d 163 2 [] [71, 0, 0] μ2) else At cr2 d 163 2 [] [71, 0, 0] μ2)))) := (At_eq cr2 d 163 1 _ _ _).trans rfl
set_option maxRecDepth 20000 in
theorem B163_2 (d : Nat) (μ : amM) : At cr2 d 163 2 [] [71, 0, 0] μ = At cr2 d 163 4 [1] [71, 0, 0] μ := (At_eq cr2 d 163 2 _ _ _).trans rfl
set_option maxRecDepth 20000 in
theorem B163_3 (d : Nat) (μ : amM) : At cr2 d 163 3 [] [71, 0, 0] μ = At cr2 d 163 4 [0] [71, 0, 0] μ := (At_eq cr2 d 163 3 _ _ _).trans rfl
set_option maxRecDepth 20000 in
theorem B163_4 (d : Nat) (s0 : Int) (μ : amM) : At cr2 d 163 4 [s0] [71, 0, 0] μ = At cr2 d 163 1 [] [71, s0, 0] μ := (At_eq cr2 d 163 4 _ _ _).trans rfl
set_option maxRecDepth 20000 in
theorem B163_5 (d : Nat) (x1 : Int) (μ : amM) : At cr2 d 163 5 [] [0, x1, 0] μ = some (x1, μ) := (At_eq cr2 d 163 5 _ _ _).trans rfl
set_option maxRecDepth 20000 in
theorem B164_0 (d : Nat) (μ : amM) : At cr2 d 164 0 [] [71, 0, 0] μ = bnd (RD cr2 d 165 [71] μ) (fun v1 μ1 => At cr2 d 164 1 [] [71, v1, 0] μ1) := (At_eq cr2 d 164 0 _ _ _).trans rfl
set_option maxRecDepth 20000 in
theorem B164_1 (d : Nat) (x1 : Int) (μ : amM) : At cr2 d 164 1 [] [71, x1, 0] μ = bnd (RD cr2 d 161 [71, 38] μ) (fun v1 μ1 => (if v1 = 0 then At cr2 d 164 4 [] [0, x1, 0] μ1 else bnd (RD cr2 d 165 [71] μ1) (fun v2 μ2 => (if x1 = 0 then At cr2 d 164 2 [] [71, 0, 0] μ2 else (if v2 = 0 then At cr2 d 164 2 [] [71, 0, 0] μ2 else At cr2 d 164 3 [1] [71, 0, 0] μ2))))) := (At_eq cr2 d 164 1 _ _ _).trans rfl
set_option maxRecDepth 20000 in
theorem B164_2 (d : Nat) (μ : amM) : At cr2 d 164 2 [] [71, 0, 0] μ = At cr2 d 164 3 [0] [71, 0, 0] μ := (At_eq cr2 d 164 2 _ _ _).trans rfl
set_option maxRecDepth 20000 in
theorem B164_3 (d : Nat) (s0 : Int) (μ : amM) : At cr2 d 164 3 [s0] [71, 0, 0] μ = At cr2 d 164 1 [] [71, s0, 0] μ := (At_eq cr2 d 164 3 _ _ _).trans rfl
set_option maxRecDepth 20000 in
theorem B164_4 (d : Nat) (x1 : Int) (μ : amM) : At cr2 d 164 4 [] [0, x1, 0] μ = some (x1, μ) := (At_eq cr2 d 164 4 _ _ _).trans rfl
set_option maxRecDepth 20000 in
theorem B165_0 (d : Nat) (μ : amM) : At cr2 d 165 0 [] [71, 0, 0, 0] μ = bnd (RD cr2 d 166 [71] μ) (fun v1 μ1 => bnd (RD cr2 d 159 [71] μ1) (fun v2 μ2 => (if v2 = 60 then At cr2 d 165 1 [] [71, v1, v2, 0] μ2 else (if v2 = 61 then At cr2 d 165 1 [] [71, v1, v2, 0] μ2 else (if v2 = 62 then At cr2 d 165 1 [] [71, v1, v2, 0] μ2 else some (v1, μ2)))))) := (At_eq cr2 d 165 0 _ _ _).trans rfl
set_option maxRecDepth 20000 in
theorem B165_1 (d : Nat) (x1 x2 : Int) (μ : amM) : At cr2 d 165 1 [] [71, x1, x2, 0] μ = wf 71 5 μ (w32 ((μ 71 5) + 1)) (fun μ1 => bnd (RD cr2 d 166 [71] μ1) (fun v1 μ2 => (if x2 = 60 then (if x1 < v1 then At cr2 d 165 4 [] [0, 0, 0, 0] μ2 else At cr2 d 165 5 [] [0, 0, 0, 0] μ2) else At cr2 d 165 2 [] [0, x1, x2, v1] μ2))) := (At_eq cr2 d 165 1 _ _ _).trans rfl
set_option maxRecDepth 20000 in
theorem B165_2 (d : Nat) (x1 x2 x3 : Int) (μ : amM) : At cr2 d 165 2 [] [0, x1, x2, x3] μ = (if x2 = 61 then (if x1 = x3 then At cr2 d 165 4 [] [0, 0, 0, 0] μ else At cr2 d 165 5 [] [0, 0, 0, 0] μ) else At cr2 d 165 3 [] [0, x1, 0, x3] μ) := (At_eq cr2 d 165 2 _ _ _).trans rfl
set_option maxRecDepth 20000 in
theorem B165_3 (d : Nat) (x1 x3 : Int) (μ : amM) : At cr2 d 165 3 [] [0, x1, 0, x3] μ = (if x3 < x1 then At cr2 d 165 4 [] [0, 0, 0, 0] μ else At cr2 d 165 5 [] [0, 0, 0, 0] μ) := (At_eq cr2 d 165 3 _ _ _).trans rfl
set_option maxRecDepth 20000 in
theorem B165_4 (d : Nat) (μ : amM) : At cr2 d 165 4 [] [0, 0, 0, 0] μ = At cr2 d 165 6 [1] [0, 0, 0, 0] μ := (At_eq cr2 d 165 4 _ _ _).trans rfl
set_option maxRecDepth 20000 in
theorem B165_5 (d : Nat) (μ : amM) : At cr2 d 165 5 [] [0, 0, 0, 0] μ = At cr2 d 165 6 [0] [0, 0, 0, 0] μ := (At_eq cr2 d 165 5 _ _ _).trans rfl
set_option maxRecDepth 20000 in
theorem B165_6 (d : Nat) (s0 : Int) (μ : amM) : At cr2 d 165 6 [s0] [0, 0, 0, 0] μ = some (s0, μ) := (At_eq cr2 d 165 6 _ _ _).trans rfl
set_option maxRecDepth 20000 in
theorem B166_0 (d : Nat) (μ : amM) : At cr2 d 166 0 [] [71, 0, 0, 0] μ = bnd (RD cr2 d 167 [71] μ) (fun v1 μ1 => At cr2 d 166 1 [] [71, v1, 0, 0] μ1) := (At_eq cr2 d 166 0 _ _ _).trans rfl
set_option maxRecDepth 20000 in
theorem B166_1 (d : Nat) (x1 : Int) (μ : amM) : At cr2 d 166 1 [] [71, x1, 0, 0] μ = bnd (RD cr2 d 159 [71] μ) (fun v1 μ1 => (if v1 = 43 then At cr2 d 166 2 [] [71, x1, 0, 0] μ1 else bnd (RD cr2 d 159 [71] μ1) (fun v2 μ2 => (if v2 = 45 then At cr2 d 166 2 [] [71, x1, 0, 0] μ2 else At cr2 d 166 5 [] [0, x1, 0, 0] μ2)))) := (At_eq cr2 d 166 1 _ _ _).trans rfl
set_option maxRecDepth 20000 in
theorem B166_2 (d : Nat) (x1 : Int) (μ : amM) : At cr2 d 166 2 [] [71, x1, 0, 0] μ = bnd (RD cr2 d 159 [71] μ) (fun v1 μ1 => wf 71 5 μ1 (w32 ((μ1 71 5) + 1)) (fun μ2 => bnd (RD cr2 d 167 [71] μ2) (fun v2 μ3 => (if v1 = 43 then At cr2 d 166 4 [(w32 (x1 + v2))] [71, 0, 0, 0] μ3 else At cr2 d 166 3 [] [71, x1, 0, v2] μ3)))) := (At_eq cr2 d 166 2 _ _ _).trans rfl
set_option maxRecDepth 20000 in
theorem B166_3 (d : Nat) (x1 x3 : Int) (μ : amM) : At cr2 d 166 3 [] [71, x1, 0, x3] μ = At cr2 d 166 4 [(w32 (x1 - x3))] [71, 0, 0, 0] μ := (At_eq cr2 d 166 3 _ _ _).trans rfl
set_option maxRecDepth 20000 in
theorem B166_4 (d : Nat) (s0 : Int) (μ : amM) : At cr2 d 166 4 [s0] [71, 0, 0, 0] μ = At cr2 d 166 1 [] [71, s0, 0, 0] μ := (At_eq cr2 d 166 4 _ _ _).trans rfl
set_option maxRecDepth 20000 in
theorem B166_5 (d : Nat) (x1 : Int) (μ : amM) : At cr2 d 166 5 [] [0, x1, 0, 0] μ = some (x1, μ) := (At_eq cr2 d 166 5 _ _ _).trans rfl
set_option maxRecDepth 20000 in
theorem B167_0 (d : Nat) (μ : amM) : At cr2 d 167 0 [] [71, 0, 0, 0] μ = bnd (RD cr2 d 168 [71] μ) (fun v1 μ1 => At cr2 d 167 1 [] [71, v1, 0, 0] μ1) := (At_eq cr2 d 167 0 _ _ _).trans rfl
set_option maxRecDepth 20000 in
theorem B167_1 (d : Nat) (x1 : Int) (μ : amM) : At cr2 d 167 1 [] [71, x1, 0, 0] μ = bnd (RD cr2 d 159 [71] μ) (fun v1 μ1 => (if v1 = 42 then At cr2 d 167 2 [] [71, x1, 0, 0] μ1 else bnd (RD cr2 d 159 [71] μ1) (fun v2 μ2 => (if v2 = 47 then At cr2 d 167 2 [] [71, x1, 0, 0] μ2 else bnd (RD cr2 d 159 [71] μ2) (fun v3 μ3 => (if v3 = 37 then At cr2 d 167 2 [] [71, x1, 0, 0] μ3 else At cr2 d 167 7 [] [0, x1, 0, 0] μ3)))))) := (At_eq cr2 d 167 1 _ _ _).trans rfl
set_option maxRecDepth 20000 in
theorem B167_2 (d : Nat) (x1 : Int) (μ : amM) : At cr2 d 167 2 [] [71, x1, 0, 0] μ = bnd (RD cr2 d 159 [71] μ) (fun v1 μ1 => wf 71 5 μ1 (w32 ((μ1 71 5) + 1)) (fun μ2 => bnd (RD cr2 d 168 [71] μ2) (fun v2 μ3 => (if v1 = 42 then At cr2 d 167 6 [(w32 (x1 * v2))] [71, 0, 0, 0] μ3 else At cr2 d 167 3 [] [71, x1, v1, v2] μ3)))) := (At_eq cr2 d 167 2 _ _ _).trans rfl
set_option maxRecDepth 20000 in
theorem B167_3 (d : Nat) (x1 x2 x3 : Int) (μ : amM) : At cr2 d 167 3 [] [71, x1, x2, x3] μ = (if x3 = 0 then At cr2 d 167 6 [0] [71, 0, 0, 0] μ else At cr2 d 167 4 [] [71, x1, x2, x3] μ) := (At_eq cr2 d 167 3 _ _ _).trans rfl
set_option maxRecDepth 20000 in
theorem B167_4 (d : Nat) (x1 x2 x3 : Int) (μ : amM) : At cr2 d 167 4 [] [71, x1, x2, x3] μ = (if x2 = 47 then if x3 = 0 then none else At cr2 d 167 6 [(w32 (x1.tdiv x3))] [71, 0, 0, 0] μ else At cr2 d 167 5 [] [71, x1, 0, x3] μ) := (At_eq cr2 d 167 4 _ _ _).trans rfl
set_option maxRecDepth 20000 in
theorem B167_5 (d : Nat) (x1 x3 : Int) (μ : amM) : At cr2 d 167 5 [] [71, x1, 0, x3] μ = if x3 = 0 then none else At cr2 d 167 6 [(x1.tmod x3)] [71, 0, 0, 0] μ := (At_eq cr2 d 167 5 _ _ _).trans rfl
set_option maxRecDepth 20000 in
theorem B167_6 (d : Nat) (s0 : Int) (μ : amM) : At cr2 d 167 6 [s0] [71, 0, 0, 0] μ = At cr2 d 167 1 [] [71, s0, 0, 0] μ := (At_eq cr2 d 167 6 _ _ _).trans rfl
set_option maxRecDepth 20000 in
theorem B167_7 (d : Nat) (x1 : Int) (μ : amM) : At cr2 d 167 7 [] [0, x1, 0, 0] μ = some (x1, μ) := (At_eq cr2 d 167 7 _ _ _).trans rfl
set_option maxRecDepth 20000 in
theorem B168_0 (d : Nat) (μ : amM) : At cr2 d 168 0 [] [71, 0, 0, 0, 0] μ = bnd (RD cr2 d 159 [71] μ) (fun v1 μ1 => (if v1 = 33 then At cr2 d 168 1 [] [71, v1, 0, 0, 0] μ1 else (if v1 = 40 then At cr2 d 168 1 [] [71, v1, 0, 0, 0] μ1 else At cr2 d 168 9 [] [71, v1, 0, 0, 0] μ1))) := (At_eq cr2 d 168 0 _ _ _).trans rfl
set_option maxRecDepth 20000 in
theorem B168_1 (d : Nat) (x1 : Int) (μ : amM) : At cr2 d 168 1 [] [71, x1, 0, 0, 0] μ = (if (μ 71 8) = 5 then bnd (RD cr2 d 160 [71] μ) (fun v1 μ1 => some (v1, μ1)) else At cr2 d 168 2 [] [71, x1, 0, 0, 0] μ) := (At_eq cr2 d 168 1 _ _ _).trans rfl
set_option maxRecDepth 20000 in
theorem B168_2 (d : Nat) (x1 : Int) (μ : amM) : At cr2 d 168 2 [] [71, x1, 0, 0, 0] μ = wf 71 8 μ (w32 ((μ 71 8) + 1)) (fun μ1 => wf 71 5 μ1 (w32 ((μ1 71 5) + 1)) (fun μ2 => (if x1 = 40 then bnd (RD cr2 d 163 [71] μ2) (fun v1 μ3 => At cr2 d 168 4 [v1] [71, x1, 0, 0, 0] μ3) else At cr2 d 168 3 [] [71, x1, 0, 0, 0] μ2))) := (At_eq cr2 d 168 2 _ _ _).trans rfl
set_option maxRecDepth 20000 in
theorem B168_3 (d : Nat) (x1 : Int) (μ : amM) : At cr2 d 168 3 [] [71, x1, 0, 0, 0] μ = bnd (RD cr2 d 168 [71] μ) (fun v1 μ1 => At cr2 d 168 4 [v1] [71, x1, 0, 0, 0] μ1) := (At_eq cr2 d 168 3 _ _ _).trans rfl
set_option maxRecDepth 20000 in
theorem B168_4 (d : Nat) (s0 x1 : Int) (μ : amM) : At cr2 d 168 4 [s0] [71, x1, 0, 0, 0] μ = (if x1 = 40 then bnd (RD cr2 d 161 [71, 41] μ) (fun v1 μ1 => (if v1 = 0 then bnd (RD cr2 d 160 [71] μ1) (fun v2 μ2 => some (v2, μ2)) else At cr2 d 168 5 [] [71, x1, s0, 0, 0] μ1)) else At cr2 d 168 5 [] [71, x1, s0, 0, 0] μ) := (At_eq cr2 d 168 4 _ _ _).trans rfl
set_option maxRecDepth 20000 in
theorem B168_5 (d : Nat) (x1 x2 : Int) (μ : amM) : At cr2 d 168 5 [] [71, x1, x2, 0, 0] μ = wf 71 8 μ (w32 ((μ 71 8) - 1)) (fun μ1 => (if x1 = 40 then At cr2 d 168 8 [x2] [0, 0, 0, 0, 0] μ1 else At cr2 d 168 6 [] [0, 0, x2, 0, 0] μ1)) := (At_eq cr2 d 168 5 _ _ _).trans rfl
set_option maxRecDepth 20000 in
theorem B168_6 (d : Nat) (x2 : Int) (μ : amM) : At cr2 d 168 6 [] [0, 0, x2, 0, 0] μ = (if x2 = 0 then At cr2 d 168 8 [1] [0, 0, 0, 0, 0] μ else At cr2 d 168 7 [] [0, 0, 0, 0, 0] μ) := (At_eq cr2 d 168 6 _ _ _).trans rfl
set_option maxRecDepth 20000 in
theorem B168_7 (d : Nat) (μ : amM) : At cr2 d 168 7 [] [0, 0, 0, 0, 0] μ = At cr2 d 168 8 [0] [0, 0, 0, 0, 0] μ := (At_eq cr2 d 168 7 _ _ _).trans rfl
set_option maxRecDepth 20000 in
theorem B168_8 (d : Nat) (s0 : Int) (μ : amM) : At cr2 d 168 8 [s0] [0, 0, 0, 0, 0] μ = some (s0, μ) := (At_eq cr2 d 168 8 _ _ _).trans rfl
set_option maxRecDepth 20000 in
theorem B168_9 (d : Nat) (x1 : Int) (μ : amM) : At cr2 d 168 9 [] [71, x1, 0, 0, 0] μ = bnd (RD cr2 d 162 [71, x1] μ) (fun v1 μ1 => (if v1 < 0 then At cr2 d 168 10 [] [71, 0, 0, 0, 0] μ1 else wf 71 5 μ1 (w32 ((μ1 71 5) + 1)) (fun μ2 => rd 75 4 μ2 v1 (fun v2 => some (v2, μ2))))) := (At_eq cr2 d 168 9 _ _ _).trans rfl
set_option maxRecDepth 20000 in
theorem B168_10 (d : Nat) (μ : amM) : At cr2 d 168 10 [] [71, 0, 0, 0, 0] μ = At cr2 d 168 11 [] [71, 0, 0, 0, 0] μ := (At_eq cr2 d 168 10 _ _ _).trans rfl
set_option maxRecDepth 20000 in
theorem B168_11 (d : Nat) (x3 x4 : Int) (μ : amM) : At cr2 d 168 11 [] [71, 0, 0, x3, x4] μ = (if x4 < 4 then bnd (RD cr2 d 159 [71] μ) (fun v1 μ1 => bnd (RD cr2 d 151 [v1, 48, 57] μ1) (fun v2 μ2 => (if v2 = 0 then At cr2 d 168 12 [] [71, 0, 0, x3, x4] μ2 else bnd (RD cr2 d 159 [71] μ2) (fun v3 μ3 => wf 71 5 μ3 (w32 ((μ3 71 5) + 1)) (fun μ4 => At cr2 d 168 11 [] [71, 0, 0, (w32 ((w32 ((w32 (10 * x3)) + v3)) - 48)), (w32 (x4 + 1))] μ4))))) else At cr2 d 168 12 [] [71, 0, 0, x3, x4] μ) := (At_eq cr2 d 168 11 _ _ _).trans rfl
set_option maxRecDepth 20000 in
theorem B168_12 (d : Nat) (x3 x4 : Int) (μ : amM) : At cr2 d 168 12 [] [71, 0, 0, x3, x4] μ = (if x4 = 0 then bnd (RD cr2 d 160 [71] μ) (fun v1 μ1 => At cr2 d 168 14 [v1] [0, 0, 0, 0, 0] μ1) else At cr2 d 168 13 [] [0, 0, 0, x3, 0] μ) := (At_eq cr2 d 168 12 _ _ _).trans rfl
set_option maxRecDepth 20000 in
theorem B168_13 (d : Nat) (x3 : Int) (μ : amM) : At cr2 d 168 13 [] [0, 0, 0, x3, 0] μ = At cr2 d 168 14 [x3] [0, 0, 0, 0, 0] μ := (At_eq cr2 d 168 13 _ _ _).trans rfl
set_option maxRecDepth 20000 in
theorem B168_14 (d : Nat) (s0 : Int) (μ : amM) : At cr2 d 168 14 [s0] [0, 0, 0, 0, 0] μ = some (s0, μ) := (At_eq cr2 d 168 14 _ _ _).trans rfl
set_option maxRecDepth 20000 in
theorem B169_0 (d : Nat) (x1 x2 x3 : Int) (μ : amM) : At cr2 d 169 0 [] [71, x1, x2, x3, 0] μ = wf 71 4 μ x1 (fun μ1 => wf 71 5 μ1 0 (fun μ2 => wf 71 6 μ2 x2 (fun μ3 => wf 71 7 μ3 (-1) (fun μ4 => wf 71 8 μ4 0 (fun μ5 => (if x3 = 1 then At cr2 d 169 2 [1, 71] [71, 0, 0, 0, 0] μ5 else At cr2 d 169 1 [71] [71, 0, 0, 0, 0] μ5)))))) := (At_eq cr2 d 169 0 _ _ _).trans rfl
set_option maxRecDepth 20000 in
theorem B169_1 (d : Nat) (μ : amM) : At cr2 d 169 1 [71] [71, 0, 0, 0, 0] μ = At cr2 d 169 2 [0, 71] [71, 0, 0, 0, 0] μ := (At_eq cr2 d 169 1 _ _ _).trans rfl
set_option maxRecDepth 20000 in
theorem B169_2 (d : Nat) (s0 : Int) (μ : amM) : At cr2 d 169 2 [s0, 71] [71, 0, 0, 0, 0] μ = amPf cr2 μ 11 9 71 s0 (fun μ1 => bnd (RD cr2 d 163 [71] μ1) (fun v1 μ2 => (if (μ2 71 7) < 0 then (if (μ2 71 5) < (μ2 71 6) then bnd (RD cr2 d 160 [71] μ2) (fun v2 μ3 => some (v2, μ3)) else At cr2 d 169 3 [] [0, 0, 0, 0, v1] μ2) else At cr2 d 169 3 [] [0, 0, 0, 0, v1] μ2))) := (At_eq cr2 d 169 2 _ _ _).trans rfl
set_option maxRecDepth 20000 in
theorem B169_3 (d : Nat) (x4 : Int) (μ : amM) : At cr2 d 169 3 [] [0, 0, 0, 0, x4] μ = some (x4, μ) := (At_eq cr2 d 169 3 _ _ _).trans rfl
set_option maxRecDepth 20000 in
theorem B170_0 (d : Nat) (x1 x3 : Int) (μ : amM) : At cr2 d 170 0 [] [71, x1, 0, x3, 0] μ = bnd (RD cr2 d 151 [x3, 1, 8] μ) (fun v1 μ1 => (if v1 = 0 then bnd (RD cr2 d 150 [71, 1] μ1) (fun v2 μ2 => some (v2, μ2)) else At cr2 d 170 1 [] [71, x1, 0, x3, 0] μ1)) := (At_eq cr2 d 170 0 _ _ _).trans rfl
set_option maxRecDepth 20000 in
theorem B170_1 (d : Nat) (x1 x3 : Int) (μ : amM) : At cr2 d 170 1 [] [71, x1, 0, x3, 0] μ = (if 50 < (w32 ((μ 72 8) + x3)) then bnd (RD cr2 d 150 [71, 4] μ) (fun v2 μ1 => some (v2, μ1)) else At cr2 d 170 2 [] [71, x1, 0, x3, 0] μ) := (At_eq cr2 d 170 1 _ _ _).trans rfl
set_option maxRecDepth 20000 in
theorem B170_2 (d : Nat) (x1 x3 : Int) (μ : amM) : At cr2 d 170 2 [] [71, x1, 0, x3, 0] μ = At cr2 d 170 3 [] [71, x1, 0, x3, 0] μ := (At_eq cr2 d 170 2 _ _ _).trans rfl
set_option maxRecDepth 20000 in
theorem B170_3 (d : Nat) (x1 x3 x4 : Int) (μ : amM) : At cr2 d 170 3 [] [71, x1, 0, x3, x4] μ = (if x4 < x3 then wr 72 576 μ (w32 (526 + (μ 72 8))) (w32 (lAnd (lShr x1 (w32 (8 * x4))) 255)) (fun μ1 => wf 72 8 μ1 (w32 ((μ1 72 8) + 1)) (fun μ2 => At cr2 d 170 3 [] [71, x1, 0, x3, (w32 (x4 + 1))] μ2)) else At cr2 d 170 4 [] [71, 0, 0, 0, 0] μ) := (At_eq cr2 d 170 3 _ _ _).trans rfl
set_option maxRecDepth 20000 in
theorem B170_4 (d : Nat) (μ : amM) : At cr2 d 170 4 [] [71, 0, 0, 0, 0] μ = some ((μ 72 8), μ) := (At_eq cr2 d 170 4 _ _ _).trans rfl
set_option maxRecDepth 20000 in
theorem B171_0 (d : Nat) (x1 : Int) (μ : amM) : At cr2 d 171 0 [] [71, x1, 0, 0, 0] μ = bnd (RD cr2 d 151 [x1, 0, 1] μ) (fun v1 μ1 => (if v1 = 0 then bnd (RD cr2 d 150 [71, 1] μ1) (fun v2 μ2 => some (v2, μ2)) else At cr2 d 171 1 [] [71, x1, 0, 0, 0] μ1)) := (At_eq cr2 d 171 0 _ _ _).trans rfl
set_option maxRecDepth 20000 in
theorem B171_1 (d : Nat) (x1 : Int) (μ : amM) : At cr2 d 171 1 [] [71, x1, 0, 0, 0] μ = wf 72 8 μ 0 (fun μ1 => bnd (RD cr2 d 169 [71, 526, (μ 72 8), x1] μ1) (fun v2 μ2 => (if (μ2 71 7) < 0 then At cr2 d 171 2 [] [71, x1, (μ 72 8), 0, 0] μ2 else some ((w32 ((-10) - (μ2 71 7))), μ2)))) := (At_eq cr2 d 171 1 _ _ _).trans rfl
set_option maxRecDepth 20000 in
theorem B171_2 (d : Nat) (x1 x2 : Int) (μ : amM) : At cr2 d 171 2 [] [71, x1, x2, 0, 0] μ = wr 72 576 μ (w32 (404 + x1)) x2 (fun μ1 => At cr2 d 171 3 [] [71, x1, x2, 0, 0] μ1) := (At_eq cr2 d 171 2 _ _ _).trans rfl
set_option maxRecDepth 20000 in
theorem B171_3 (d : Nat) (x1 x2 x4 : Int) (μ : amM) : At cr2 d 171 3 [] [71, x1, x2, 0, x4] μ = (if x4 < x2 then rd 72 576 μ (w32 (526 + x4)) (fun v1 => wr 72 576 μ (w32 ((w32 (426 + (w32 (50 * x1)))) + x4)) v1 (fun μ1 => At cr2 d 171 3 [] [71, x1, x2, 0, (w32 (x4 + 1))] μ1)) else At cr2 d 171 4 [] [0, 0, 0, 0, 0] μ) := (At_eq cr2 d 171 3 _ _ _).trans rfl
set_option maxRecDepth 20000 in
theorem B171_4 (d : Nat) (μ : amM) : At cr2 d 171 4 [] [0, 0, 0, 0, 0] μ = some (1, μ) := (At_eq cr2 d 171 4 _ _ _).trans rfl
set_option maxRecDepth 20000 in
theorem B172_0 (d : Nat) (x1 x2 x3 x4 x5 : Int) (μ : amM) : At cr2 d 172 0 [] [71, x1, x2, x3, x4, x5, 0] μ = (if x1 = 0 then At cr2 d 172 2 [(w32 (10 + x3))] [71, x1, x2, x3, x4, x5, 0] μ else At cr2 d 172 1 [] [71, x1, x2, x3, x4, x5, 0] μ) := (At_eq cr2 d 172 0 _ _ _).trans rfl
set_option maxRecDepth 20000 in
theorem B172_1 (d : Nat) (x1 x2 x3 x4 x5 : Int) (μ : amM) : At cr2 d 172 1 [] [71, x1, x2, x3, x4, x5, 0] μ = At cr2 d 172 2 [0] [71, x1, x2, x3, x4, x5, 0] μ := (At_eq cr2 d 172 1 _ _ _).trans rfl
set_option maxRecDepth 20000 in
theorem B172_2 (d : Nat) (s0 x1 x2 x3 x4 x5 : Int) (μ : amM) : At cr2 d 172 2 [s0] [71, x1, x2, x3, x4, x5, 0] μ = rd 72 576 μ (w32 (404 + x1)) (fun v1 => (if 0 < v1 then wf 75 0 μ x2 (fun μ1 => wf 75 1 μ1 x3 (fun μ2 => wf 75 2 μ2 x4 (fun μ3 => wf 75 3 μ3 x5 (fun μ4 => rd 72 576 μ4 (w32 (404 + x1)) (fun v2 => bnd (RD cr2 d 169 [71, (w32 (426 + (w32 (50 * x1)))), v2, x1] μ4) (fun v3 μ5 => At cr2 d 172 3 [] [0, x1, 0, 0, 0, 0, v3] μ5)))))) else At cr2 d 172 3 [] [0, x1, 0, 0, 0, 0, s0] μ)) := (At_eq cr2 d 172 2 _ _ _).trans rfl
set_option maxRecDepth 20000 in
theorem B172_3 (d : Nat) (x1 x6 : Int) (μ : amM) : At cr2 d 172 3 [] [0, x1, 0, 0, 0, 0, x6] μ = (if x1 = 0 then bnd (RD cr2 d 152 [x6, 0, 99] μ) (fun v1 μ1 => At cr2 d 172 5 [v1] [0, 0, 0, 0, 0, 0, 0] μ1) else At cr2 d 172 4 [] [0, 0, 0, 0, 0, 0, x6] μ) := (At_eq cr2 d 172 3 _ _ _).trans rfl
set_option maxRecDepth 20000 in
theorem B172_4 (d : Nat) (x6 : Int) (μ : amM) : At cr2 d 172 4 [] [0, 0, 0, 0, 0, 0, x6] μ = bnd (RD cr2 d 152 [x6, (-99), 99] μ) (fun v1 μ1 => At cr2 d 172 5 [v1] [0, 0, 0, 0, 0, 0, 0] μ1) := (At_eq cr2 d 172 4 _ _ _).trans rfl
set_option maxRecDepth 20000 in
theorem B172_5 (d : Nat) (s0 : Int) (μ : amM) : At cr2 d 172 5 [s0] [0, 0, 0, 0, 0, 0, 0] μ = some (s0, μ) := (At_eq cr2 d 172 5 _ _ _).trans rfl
set_option maxRecDepth 20000 in
theorem B173_0 (d : Nat) (x1 x2 x3 x4 x5 : Int) (μ : amM) : At cr2 d 173 0 [] [71, x1, x2, x3, x4, x5] μ = bnd (RD cr2 d 151 [x1, 0, 1] μ) (fun v1 μ1 => (if v1 = 0 then At cr2 d 173 1 [] [71, 0, 0, 0, 0, 0] μ1 else bnd (RD cr2 d 172 [71, x1, x2, x3, x4, x5] μ1) (fun v2 μ2 => At cr2 d 173 2 [v2] [0, 0, 0, 0, 0, 0] μ2))) := (At_eq cr2 d 173 0 _ _ _).trans rfl
set_option maxRecDepth 20000 in
theorem B173_1 (d : Nat) (μ : amM) : At cr2 d 173 1 [] [71, 0, 0, 0, 0, 0] μ = bnd (RD cr2 d 150 [71, 1] μ) (fun v1 μ1 => At cr2 d 173 2 [v1] [0, 0, 0, 0, 0, 0] μ1) := (At_eq cr2 d 173 1 _ _ _).trans rfl
set_option maxRecDepth 20000 in
theorem B173_2 (d : Nat) (s0 : Int) (μ : amM) : At cr2 d 173 2 [s0] [0, 0, 0, 0, 0, 0] μ = some (s0, μ) := (At_eq cr2 d 173 2 _ _ _).trans rfl
set_option maxRecDepth 20000 in
theorem B174_0 (d : Nat) (x1 x2 : Int) (μ : amM) : At cr2 d 174 0 [] [71, x1, x2] μ = wr 76 128 μ (μ 71 13) x1 (fun μ1 => wr 77 128 μ1 (μ1 71 13) x2 (fun μ2 => wf 71 13 μ2 (w32 ((μ2 71 13) + 1)) (fun μ3 => some (0, μ3)))) := (At_eq cr2 d 174 0 _ _ _).trans rfl
set_option maxRecDepth 20000 in
theorem B175_0 (d : Nat) (μ : amM) : At cr2 d 175 0 [] [71, 0, 0, 0] μ = wf 71 13 μ 0 (fun μ1 => At cr2 d 175 1 [] [71, (μ1 72 1), 0, 0] μ1) := (At_eq cr2 d 175 0 _ _ _).trans rfl
set_option maxRecDepth 20000 in
theorem B175_1 (d : Nat) (x1 x2 : Int) (μ : amM) : At cr2 d 175 1 [] [71, x1, x2, 0] μ = bnd (RD cr2 d 153 [71] μ) (fun v1 μ1 => (if x2 < v1 then if x1 = 0 then none else (if (w32 ((x2.tmod x1) + 1)) < x1 then bnd (RD cr2 d 174 [71, x2, (w32 (x2 + 1))] μ1) (fun _ μ2 => At cr2 d 175 2 [] [71, x1, x2, (x2.tmod x1)] μ2) else At cr2 d 175 2 [] [71, x1, x2, (x2.tmod x1)] μ1) else At cr2 d 175 6 [] [0, 0, 0, 0] μ1)) := (At_eq cr2 d 175 1 _ _ _).trans rfl
set_option maxRecDepth 20000 in
theorem B175_2 (d : Nat) (x1 x2 x3 : Int) (μ : amM) : At cr2 d 175 2 [] [71, x1, x2, x3] μ = (if 0 < (μ 72 2) then (if 2 < x1 then (if x3 = 0 then bnd (RD cr2 d 174 [71, x2, (w32 ((w32 (x2 + x1)) - 1))] μ) (fun _ μ1 => At cr2 d 175 3 [] [71, x1, x2, 0] μ1) else At cr2 d 175 3 [] [71, x1, x2, 0] μ) else At cr2 d 175 3 [] [71, x1, x2, 0] μ) else At cr2 d 175 3 [] [71, x1, x2, 0] μ) := (At_eq cr2 d 175 2 _ _ _).trans rfl
set_option maxRecDepth 20000 in
theorem B175_3 (d : Nat) (x1 x2 : Int) (μ : amM) : At cr2 d 175 3 [] [71, x1, x2, 0] μ = bnd (RD cr2 d 153 [71] μ) (fun v1 μ1 => (if (w32 (x2 + x1)) < v1 then bnd (RD cr2 d 174 [71, x2, (w32 (x2 + x1))] μ1) (fun _ μ2 => At cr2 d 175 4 [] [71, x1, x2, 0] μ2) else At cr2 d 175 4 [] [71, x1, x2, 0] μ1)) := (At_eq cr2 d 175 3 _ _ _).trans rfl
set_option maxRecDepth 20000 in
theorem B175_4 (d : Nat) (x1 x2 : Int) (μ : amM) : At cr2 d 175 4 [] [71, x1, x2, 0] μ = (if (μ 72 2) = 2 then (if 2 < (μ 72 0) then (if x2 < x1 then bnd (RD cr2 d 174 [71, x2, (w32 (x2 + (w32 ((w32 ((μ 72 0) - 1)) * x1))))] μ) (fun _ μ1 => At cr2 d 175 5 [] [71, x1, x2, 0] μ1) else At cr2 d 175 5 [] [71, x1, x2, 0] μ) else At cr2 d 175 5 [] [71, x1, x2, 0] μ) else At cr2 d 175 5 [] [71, x1, x2, 0] μ) := (At_eq cr2 d 175 4 _ _ _).trans rfl
set_option maxRecDepth 20000 in
theorem B175_5 (d : Nat) (x1 x2 : Int) (μ : amM) : At cr2 d 175 5 [] [71, x1, x2, 0] μ = At cr2 d 175 1 [] [71, x1, (w32 (x2 + 1)), 0] μ := (At_eq cr2 d 175 5 _ _ _).trans rfl
set_option maxRecDepth 20000 in
theorem B175_6 (d : Nat) (μ : amM) : At cr2 d 175 6 [] [0, 0, 0, 0] μ = some (0, μ) := (At_eq cr2 d 175 6 _ _ _).trans rfl
set_option maxRecDepth 20000 in
theorem B176_0 (d : Nat) (x1 x2 : Int) (μ : amM) : At cr2 d 176 0 [] [71, x1, x2, 0, 0] μ = At cr2 d 176 1 [] [71, x1, x2, 0, 0] μ := (At_eq cr2 d 176 0 _ _ _).trans rfl
set_option maxRecDepth 20000 in
theorem B176_1 (d : Nat) (x1 x2 x3 x4 : Int) (μ : amM) : At cr2 d 176 1 [] [71, x1, x2, x3, x4] μ = (if x4 < 4 then bnd (RD cr2 d 157 [71, x1, x4] μ) (fun v1 μ1 => (if v1 < 3 then bnd (RD cr2 d 157 [71, x1, x4] μ1) (fun v2 μ2 => bnd (RD cr2 d 157 [71, x2, x4] μ2) (fun v3 μ3 => (if v2 = v3 then At cr2 d 176 3 [1, x3] [71, x1, x2, 0, x4] μ3 else At cr2 d 176 2 [x3] [71, x1, x2, 0, x4] μ3))) else At cr2 d 176 2 [x3] [71, x1, x2, 0, x4] μ1)) else At cr2 d 176 4 [] [0, 0, 0, x3, 0] μ) := (At_eq cr2 d 176 1 _ _ _).trans rfl
set_option maxRecDepth 20000 in
theorem B176_2 (d : Nat) (s0 x1 x2 x4 : Int) (μ : amM) : At cr2 d 176 2 [s0] [71, x1, x2, 0, x4] μ = At cr2 d 176 3 [0, s0] [71, x1, x2, 0, x4] μ := (At_eq cr2 d 176 2 _ _ _).trans rfl
set_option maxRecDepth 20000 in
theorem B176_3 (d : Nat) (s0 s1 x1 x2 x4 : Int) (μ : amM) : At cr2 d 176 3 [s0, s1] [71, x1, x2, 0, x4] μ = At cr2 d 176 1 [] [71, x1, x2, (w32 (s1 + s0)), (w32 (x4 + 1))] μ := (At_eq cr2 d 176 3 _ _ _).trans rfl
set_option maxRecDepth 20000 in
theorem B176_4 (d : Nat) (x3 : Int) (μ : amM) : At cr2 d 176 4 [] [0, 0, 0, x3, 0] μ = some (x3, μ) := (At_eq cr2 d 176 4 _ _ _).trans rfl
set_option maxRecDepth 20000 in
theorem B177_0 (d : Nat) (x1 : Int) (μ : amM) : At cr2 d 177 0 [] [71, x1] μ = bnd (RD cr2 d 155 [71, x1] μ) (fun v1 μ1 => (if v1 = 0 then bnd (RD cr2 d 156 [71, x1] μ1) (fun v2 μ2 => (if v2 = 5 then At cr2 d 177 1 [] [0, 0] μ2 else At cr2 d 177 2 [1] [0, 0] μ2)) else At cr2 d 177 1 [] [0, 0] μ1)) := (At_eq cr2 d 177 0 _ _ _).trans rfl
set_option maxRecDepth 20000 in
theorem B177_1 (d : Nat) (μ : amM) : At cr2 d 177 1 [] [0, 0] μ = At cr2 d 177 2 [0] [0, 0] μ := (At_eq cr2 d 177 1 _ _ _).trans rfl
set_option maxRecDepth 20000 in
theorem B177_2 (d : Nat) (s0 : Int) (μ : amM) : At cr2 d 177 2 [s0] [0, 0] μ = rb s0 μ := (At_eq cr2 d 177 2 _ _ _).trans rfl
set_option maxRecDepth 20000 in
theorem B178_0 (d : Nat) (x1 : Int) (μ : amM) : At cr2 d 178 0 [] [71, x1] μ = rd 76 128 μ x1 (fun v1 => bnd (RD cr2 d 177 [71, v1] μ) (fun v2 μ1 => (if v2 = 0 then At cr2 d 178 1 [] [0, 0] μ1 else rd 77 128 μ1 x1 (fun v3 => bnd (RD cr2 d 177 [71, v3] μ1) (fun v4 μ2 => (if v4 = 0 then At cr2 d 178 1 [] [0, 0] μ2 else rd 76 128 μ2 x1 (fun v5 => rd 77 128 μ2 x1 (fun v6 => bnd (RD cr2 d 176 [71, v5, v6] μ2) (fun v7 μ3 => bnd (RD cr2 d 151 [v7, (μ3 72 3), (μ3 72 4)] μ3) (fun v10 μ4 => (if v10 = 0 then At cr2 d 178 2 [1] [0, 0] μ4 else At cr2 d 178 1 [] [0, 0] μ4))))))))))) := (At_eq cr2 d 178 0 _ _ _).trans rfl
set_option maxRecDepth 20000 in
theorem B178_1 (d : Nat) (μ : amM) : At cr2 d 178 1 [] [0, 0] μ = At cr2 d 178 2 [0] [0, 0] μ := (At_eq cr2 d 178 1 _ _ _).trans rfl
set_option maxRecDepth 20000 in
theorem B178_2 (d : Nat) (s0 : Int) (μ : amM) : At cr2 d 178 2 [s0] [0, 0] μ = rb s0 μ := (At_eq cr2 d 178 2 _ _ _).trans rfl
set_option maxRecDepth 20000 in
theorem B179_0 (d : Nat) (x1 : Int) (μ : amM) : At cr2 d 179 0 [] [71, x1, 0, 0] μ = At cr2 d 179 1 [] [71, x1, 1, 0] μ := (At_eq cr2 d 179 0 _ _ _).trans rfl
set_option maxRecDepth 20000 in
theorem B179_1 (d : Nat) (x1 x2 x3 : Int) (μ : amM) : At cr2 d 179 1 [] [71, x1, x2, x3] μ = (if x3 < (μ 71 13) then (if x2 = 0 then At cr2 d 179 4 [] [71, x1, 0, x3] μ else rd 76 128 μ x3 (fun v1 => (if v1 = x1 then At cr2 d 179 2 [] [71, x1, 0, x3] μ else rd 77 128 μ x3 (fun v2 => (if v2 = x1 then At cr2 d 179 2 [] [71, x1, 0, x3] μ else At cr2 d 179 3 [] [71, x1, 0, x3] μ))))) else At cr2 d 179 6 [] [0, 0, x2, 0] μ) := (At_eq cr2 d 179 1 _ _ _).trans rfl
set_option maxRecDepth 20000 in
theorem B179_2 (d : Nat) (x1 x3 : Int) (μ : amM) : At cr2 d 179 2 [] [71, x1, 0, x3] μ = bnd (RD cr2 d 178 [71, x3] μ) (fun v1 μ1 => (if v1 = 0 then At cr2 d 179 3 [] [71, x1, 0, x3] μ1 else At cr2 d 179 4 [] [71, x1, 0, x3] μ1)) := (At_eq cr2 d 179 2 _ _ _).trans rfl
set_option maxRecDepth 20000 in
theorem B179_3 (d : Nat) (x1 x3 : Int) (μ : amM) : At cr2 d 179 3 [] [71, x1, 0, x3] μ = At cr2 d 179 5 [1] [71, x1, 0, x3] μ := (At_eq cr2 d 179 3 _ _ _).trans rfl
set_option maxRecDepth 20000 in
theorem B179_4 (d : Nat) (x1 x3 : Int) (μ : amM) : At cr2 d 179 4 [] [71, x1, 0, x3] μ = At cr2 d 179 5 [0] [71, x1, 0, x3] μ := (At_eq cr2 d 179 4 _ _ _).trans rfl
set_option maxRecDepth 20000 in
theorem B179_5 (d : Nat) (s0 x1 x3 : Int) (μ : amM) : At cr2 d 179 5 [s0] [71, x1, 0, x3] μ = At cr2 d 179 1 [] [71, x1, s0, (w32 (x3 + 1))] μ := (At_eq cr2 d 179 5 _ _ _).trans rfl
set_option maxRecDepth 20000 in
theorem B179_6 (d : Nat) (x2 : Int) (μ : amM) : At cr2 d 179 6 [] [0, 0, x2, 0] μ = rb x2 μ := (At_eq cr2 d 179 6 _ _ _).trans rfl
set_option maxRecDepth 20000 in
theorem B180_0 (d : Nat) (μ : amM) : At cr2 d 180 0 [] [71, 0] μ = wf 71 14 μ 0 (fun μ1 => wf 71 15 μ1 (-1) (fun μ2 => At cr2 d 180 1 [] [71, (w32 ((μ2 71 13) - 1))] μ2)) := (At_eq cr2 d 180 0 _ _ _).trans rfl
set_option maxRecDepth 20000 in
theorem B180_1 (d : Nat) (x1 : Int) (μ : amM) : At cr2 d 180 1 [] [71, x1] μ = (if x1 < 0 then At cr2 d 180 3 [] [0, 0] μ else bnd (RD cr2 d 178 [71, x1] μ) (fun v1 μ1 => (if v1 = 0 then At cr2 d 180 2 [] [71, x1] μ1 else wf 71 14 μ1 (w32 ((μ1 71 14) + 1)) (fun μ2 => wf 71 15 μ2 x1 (fun μ3 => At cr2 d 180 2 [] [71, x1] μ3))))) := (At_eq cr2 d 180 1 _ _ _).trans rfl
set_option maxRecDepth 20000 in
theorem B180_2 (d : Nat) (x1 : Int) (μ : amM) : At cr2 d 180 2 [] [71, x1] μ = At cr2 d 180 1 [] [71, (w32 (x1 + (-1)))] μ := (At_eq cr2 d 180 2 _ _ _).trans rfl
set_option maxRecDepth 20000 in
theorem B180_3 (d : Nat) (μ : amM) : At cr2 d 180 3 [] [0, 0] μ = some (0, μ) := (At_eq cr2 d 180 3 _ _ _).trans rfl
set_option maxRecDepth 20000 in
theorem B181_0 (d : Nat) (μ : amM) : At cr2 d 181 0 [] [71] μ = bnd (RD cr2 d 180 [71] μ) (fun _ μ1 => (if (μ1 71 14) = 0 then At cr2 d 181 2 [1] [0] μ1 else At cr2 d 181 1 [] [0] μ1)) := (At_eq cr2 d 181 0 _ _ _).trans rfl
set_option maxRecDepth 20000 in
theorem B181_1 (d : Nat) (μ : amM) : At cr2 d 181 1 [] [0] μ = At cr2 d 181 2 [0] [0] μ := (At_eq cr2 d 181 1 _ _ _).trans rfl
set_option maxRecDepth 20000 in
theorem B181_2 (d : Nat) (s0 : Int) (μ : amM) : At cr2 d 181 2 [s0] [0] μ = rb s0 μ := (At_eq cr2 d 181 2 _ _ _).trans rfl
set_option maxRecDepth 20000 in
theorem B182_0 (d : Nat) (x1 x2 x3 : Int) (μ : amM) : At cr2 d 182 0 [] [71, x1, x2, x3] μ = wr 72 576 μ (w32 (20 + x1)) (w32 (1 + (w32 (x2.tdiv 10)))) (fun μ1 => wr 72 576 μ1 (w32 (84 + x1)) (x2.tmod 10) (fun μ2 => bnd (RD cr2 d 158 [71, x1, 0, (w32 (x3.tdiv 27))] μ2) (fun _ μ3 => bnd (RD cr2 d 158 [71, x1, 1, ((w32 (x3.tdiv 9)).tmod 3)] μ3) (fun _ μ4 => bnd (RD cr2 d 158 [71, x1, 2, ((w32 (x3.tdiv 3)).tmod 3)] μ4) (fun _ μ5 => bnd (RD cr2 d 158 [71, x1, 3, (x3.tmod 3)] μ5) (fun _ μ6 => some (0, μ6))))))) := (At_eq cr2 d 182 0 _ _ _).trans rfl
set_option maxRecDepth 20000 in
theorem B183_0 (d : Nat) (x1 : Int) (μ : amM) : At cr2 d 183 0 [] [71, x1, 0] μ = wr 72 576 μ (w32 (20 + x1)) 0 (fun μ1 => wr 72 576 μ1 (w32 (84 + x1)) 0 (fun μ2 => At cr2 d 183 1 [] [71, x1, 0] μ2)) := (At_eq cr2 d 183 0 _ _ _).trans rfl
set_option maxRecDepth 20000 in
theorem B183_1 (d : Nat) (x1 x2 : Int) (μ : amM) : At cr2 d 183 1 [] [71, x1, x2] μ = (if x2 < 4 then bnd (RD cr2 d 158 [71, x1, x2, 0] μ) (fun _ μ1 => At cr2 d 183 1 [] [71, x1, (w32 (x2 + 1))] μ1) else At cr2 d 183 2 [] [0, 0, 0] μ) := (At_eq cr2 d 183 1 _ _ _).trans rfl
set_option maxRecDepth 20000 in
theorem B183_2 (d : Nat) (μ : amM) : At cr2 d 183 2 [] [0, 0, 0] μ = some (0, μ) := (At_eq cr2 d 183 2 _ _ _).trans rfl
set_option maxRecDepth 20000 in
theorem B184_0 (d : Nat) (μ : amM) : At cr2 d 184 0 [] [71, 0, 0] μ = At cr2 d 184 1 [] [71, 0, 0] μ := (At_eq cr2 d 184 0 _ _ _).trans rfl
set_option maxRecDepth 20000 in
theorem B184_1 (d : Nat) (x1 x2 : Int) (μ : amM) : At cr2 d 184 1 [] [71, x1, x2] μ = bnd (RD cr2 d 153 [71] μ) (fun v1 μ1 => (if x2 < v1 then bnd (RD cr2 d 155 [71, x2] μ1) (fun v2 μ2 => (if v2 = 0 then At cr2 d 184 2 [x1] [71, 0, x2] μ2 else At cr2 d 184 3 [0, x1] [71, 0, x2] μ2)) else At cr2 d 184 4 [] [0, x1, 0] μ1)) := (At_eq cr2 d 184 1 _ _ _).trans rfl
set_option maxRecDepth 20000 in
theorem B184_2 (d : Nat) (s0 x2 : Int) (μ : amM) : At cr2 d 184 2 [s0] [71, 0, x2] μ = At cr2 d 184 3 [1, s0] [71, 0, x2] μ := (At_eq cr2 d 184 2 _ _ _).trans rfl
set_option maxRecDepth 20000 in
theorem B184_3 (d : Nat) (s0 s1 x2 : Int) (μ : amM) : At cr2 d 184 3 [s0, s1] [71, 0, x2] μ = At cr2 d 184 1 [] [71, (w32 (s1 + s0)), (w32 (x2 + 1))] μ := (At_eq cr2 d 184 3 _ _ _).trans rfl
set_option maxRecDepth 20000 in
theorem B184_4 (d : Nat) (x1 : Int) (μ : amM) : At cr2 d 184 4 [] [0, x1, 0] μ = some (x1, μ) := (At_eq cr2 d 184 4 _ _ _).trans rfl
set_option maxRecDepth 20000 in
theorem B185_0 (d : Nat) (x1 x2 : Int) (μ : amM) : At cr2 d 185 0 [] [71, x1, x2, 0, 0] μ = rd 72 576 μ (w32 (84 + x1)) (fun v1 => bnd (RD cr2 d 172 [71, 0, x2, v1, 0, 0] μ) (fun v2 μ1 => bnd (RD cr2 d 156 [71, x1] μ1) (fun v3 μ2 => (if v3 = 1 then At cr2 d 185 1 [] [0, 0, 0, 0, v2] μ2 else if v3 = 2 then At cr2 d 185 2 [] [0, 0, 0, 0, v2] μ2 else if v3 = 3 then At cr2 d 185 3 [] [0, 0, 0, v1, 0] μ2 else if v3 = 4 then At cr2 d 185 4 [] [0, 0, 0, 0, v2] μ2 else if v3 = 5 then At cr2 d 185 5 [] [0, 0, 0, 0, 0] μ2 else if v3 = 6 then At cr2 d 185 6 [] [0, 0, 0, v1, 0] μ2 else At cr2 d 185 9 [] [0, 0, 0, 0, v2] μ2)))) := (At_eq cr2 d 185 0 _ _ _).trans rfl
set_option maxRecDepth 20000 in
theorem B185_1 (d : Nat) (x4 : Int) (μ : amM) : At cr2 d 185 1 [] [0, 0, 0, 0, x4] μ = some ((w32 (x4.tdiv 2)), μ) := (At_eq cr2 d 185 1 _ _ _).trans rfl
set_option maxRecDepth 20000 in
theorem B185_2 (d : Nat) (x4 : Int) (μ : amM) : At cr2 d 185 2 [] [0, 0, 0, 0, x4] μ = some ((w32 (2 * x4)), μ) := (At_eq cr2 d 185 2 _ _ _).trans rfl
set_option maxRecDepth 20000 in
theorem B185_3 (d : Nat) (x3 : Int) (μ : amM) : At cr2 d 185 3 [] [0, 0, 0, x3, 0] μ = some (x3, μ) := (At_eq cr2 d 185 3 _ _ _).trans rfl
set_option maxRecDepth 20000 in
theorem B185_4 (d : Nat) (x4 : Int) (μ : amM) : At cr2 d 185 4 [] [0, 0, 0, 0, x4] μ = some ((w32 ((w32 (x4.tdiv 2)) + 5)), μ) := (At_eq cr2 d 185 4 _ _ _).trans rfl
set_option maxRecDepth 20000 in
theorem B185_5 (d : Nat) (μ : amM) : At cr2 d 185 5 [] [0, 0, 0, 0, 0] μ = some ((-1), μ) := (At_eq cr2 d 185 5 _ _ _).trans rfl
set_option maxRecDepth 20000 in
theorem B185_6 (d : Nat) (x3 : Int) (μ : amM) : At cr2 d 185 6 [] [0, 0, 0, x3, 0] μ = (if x3 < 3 then At cr2 d 185 8 [0] [0, 0, 0, 0, 0] μ else At cr2 d 185 7 [] [0, 0, 0, x3, 0] μ) := (At_eq cr2 d 185 6 _ _ _).trans rfl
set_option maxRecDepth 20000 in
theorem B185_7 (d : Nat) (x3 : Int) (μ : amM) : At cr2 d 185 7 [] [0, 0, 0, x3, 0] μ = At cr2 d 185 8 [(w32 (x3 - 3))] [0, 0, 0, 0, 0] μ := (At_eq cr2 d 185 7 _ _ _).trans rfl
set_option maxRecDepth 20000 in
theorem B185_8 (d : Nat) (s0 : Int) (μ : amM) : At cr2 d 185 8 [s0] [0, 0, 0, 0, 0] μ = some (s0, μ) := (At_eq cr2 d 185 8 _ _ _).trans rfl
set_option maxRecDepth 20000 in
theorem B185_9 (d : Nat) (x4 : Int) (μ : amM) : At cr2 d 185 9 [] [0, 0, 0, 0, x4] μ = some (x4, μ) := (At_eq cr2 d 185 9 _ _ _).trans rfl
set_option maxRecDepth 20000 in
theorem B186_0 (d : Nat) (x1 : Int) (μ : amM) : At cr2 d 186 0 [] [71, x1] μ = bnd (RD cr2 d 157 [71, x1, 0] μ) (fun v1 μ1 => bnd (RD cr2 d 157 [71, x1, 1] μ1) (fun v2 μ2 => bnd (RD cr2 d 157 [71, x1, 2] μ2) (fun v3 μ3 => bnd (RD cr2 d 157 [71, x1, 3] μ3) (fun v4 μ4 => bnd (RD cr2 d 172 [71, 1, v1, v2, v3, v4] μ4) (fun v5 μ5 => some (v5, μ5)))))) := (At_eq cr2 d 186 0 _ _ _).trans rfl
set_option maxRecDepth 20000 in
theorem B187_0 (d : Nat) (x1 x2 x3 : Int) (μ : amM) : At cr2 d 187 0 [] [71, x1, x2, x3, 0] μ = bnd (RD cr2 d 151 [x1, 1, 8] μ) (fun v1 μ1 => (if v1 = 0 then At cr2 d 187 1 [] [71, 0, 0, 0, 0] μ1 else bnd (RD cr2 d 151 [x2, 1, 8] μ1) (fun v2 μ2 => (if v2 = 0 then At cr2 d 187 1 [] [71, 0, 0, 0, 0] μ2 else bnd (RD cr2 d 151 [x3, 0, 2] μ2) (fun v3 μ3 => (if v3 = 0 then At cr2 d 187 1 [] [71, 0, 0, 0, 0] μ3 else At cr2 d 187 2 [] [71, x1, x2, x3, 0] μ3)))))) := (At_eq cr2 d 187 0 _ _ _).trans rfl
set_option maxRecDepth 20000 in
theorem B187_1 (d : Nat) (μ : amM) : At cr2 d 187 1 [] [71, 0, 0, 0, 0] μ = bnd (RD cr2 d 150 [71, 1] μ) (fun v1 μ1 => some (v1, μ1)) := (At_eq cr2 d 187 1 _ _ _).trans rfl
set_option maxRecDepth 20000 in
theorem B187_2 (d : Nat) (x1 x2 x3 : Int) (μ : amM) : At cr2 d 187 2 [] [71, x1, x2, x3, 0] μ = wf 72 0 μ x1 (fun μ1 => wf 72 1 μ1 x2 (fun μ2 => wf 72 2 μ2 x3 (fun μ3 => At cr2 d 187 3 [] [71, 0, 0, 0, 0] μ3))) := (At_eq cr2 d 187 2 _ _ _).trans rfl
set_option maxRecDepth 20000 in
theorem B187_3 (d : Nat) (x4 : Int) (μ : amM) : At cr2 d 187 3 [] [71, 0, 0, 0, x4] μ = (if x4 < 64 then bnd (RD cr2 d 183 [71, x4] μ) (fun _ μ1 => At cr2 d 187 3 [] [71, 0, 0, 0, (w32 (x4 + 1))] μ1) else At cr2 d 187 4 [] [71, 0, 0, 0, 0] μ) := (At_eq cr2 d 187 3 _ _ _).trans rfl
set_option maxRecDepth 20000 in
theorem B187_4 (d : Nat) (μ : amM) : At cr2 d 187 4 [] [71, 0, 0, 0, 0] μ = bnd (RD cr2 d 153 [71] μ) (fun v1 μ1 => some (v1, μ1)) := (At_eq cr2 d 187 4 _ _ _).trans rfl
set_option maxRecDepth 20000 in
theorem B188_0 (d : Nat) (x1 x2 : Int) (μ : amM) : At cr2 d 188 0 [] [71, x1, x2, 0] μ = bnd (RD cr2 d 151 [x1, 0, 1] μ) (fun v1 μ1 => (if v1 = 0 then At cr2 d 188 1 [] [71, 0, 0, 0] μ1 else bnd (RD cr2 d 151 [x2, 0, 4] μ1) (fun v2 μ2 => (if v2 = 0 then At cr2 d 188 1 [] [71, 0, 0, 0] μ2 else At cr2 d 188 2 [] [71, x1, x2, 0] μ2)))) := (At_eq cr2 d 188 0 _ _ _).trans rfl
set_option maxRecDepth 20000 in
theorem B188_1 (d : Nat) (μ : amM) : At cr2 d 188 1 [] [71, 0, 0, 0] μ = bnd (RD cr2 d 150 [71, 1] μ) (fun v1 μ1 => some (v1, μ1)) := (At_eq cr2 d 188 1 _ _ _).trans rfl
set_option maxRecDepth 20000 in
theorem B188_2 (d : Nat) (x1 x2 : Int) (μ : amM) : At cr2 d 188 2 [] [71, x1, x2, 0] μ = (if x1 = 0 then (if (μ 72 4) < x2 then At cr2 d 188 4 [] [71, 0, 0, 0] μ else At cr2 d 188 5 [] [71, x1, x2, 0] μ) else At cr2 d 188 3 [] [71, x1, x2, 0] μ) := (At_eq cr2 d 188 2 _ _ _).trans rfl
set_option maxRecDepth 20000 in
theorem B188_3 (d : Nat) (x1 x2 : Int) (μ : amM) : At cr2 d 188 3 [] [71, x1, x2, 0] μ = (if x2 < (μ 72 3) then At cr2 d 188 4 [] [71, 0, 0, 0] μ else At cr2 d 188 5 [] [71, x1, x2, 0] μ) := (At_eq cr2 d 188 3 _ _ _).trans rfl
set_option maxRecDepth 20000 in
theorem B188_4 (d : Nat) (μ : amM) : At cr2 d 188 4 [] [71, 0, 0, 0] μ = bnd (RD cr2 d 150 [71, 3] μ) (fun v1 μ1 => some (v1, μ1)) := (At_eq cr2 d 188 4 _ _ _).trans rfl
set_option maxRecDepth 20000 in
theorem B188_5 (d : Nat) (x1 x2 : Int) (μ : amM) : At cr2 d 188 5 [] [71, x1, x2, 0] μ = rd 72 576 μ (w32 (3 + x1)) (fun v1 => wr 72 576 μ (w32 (3 + x1)) x2 (fun μ1 => some (v1, μ1))) := (At_eq cr2 d 188 5 _ _ _).trans rfl
set_option maxRecDepth 20000 in
theorem B189_0 (d : Nat) (x1 x2 x3 : Int) (μ : amM) : At cr2 d 189 0 [] [71, x1, x2, x3] μ = bnd (RD cr2 d 182 [71, x1, x2, x3] μ) (fun _ μ1 => bnd (RD cr2 d 175 [71] μ1) (fun _ μ2 => bnd (RD cr2 d 179 [71, x1] μ2) (fun v1 μ3 => (if v1 = 0 then At cr2 d 189 1 [] [71, x1, 0, 0] μ3 else some (1, μ3))))) := (At_eq cr2 d 189 0 _ _ _).trans rfl
set_option maxRecDepth 20000 in
theorem B189_1 (d : Nat) (x1 : Int) (μ : amM) : At cr2 d 189 1 [] [71, x1, 0, 0] μ = bnd (RD cr2 d 183 [71, x1] μ) (fun _ μ1 => some (0, μ1)) := (At_eq cr2 d 189 1 _ _ _).trans rfl
set_option maxRecDepth 20000 in
theorem B190_0 (d : Nat) (x1 x2 x3 : Int) (μ : amM) : At cr2 d 190 0 [] [71, x1, x2, x3] μ = bnd (RD cr2 d 154 [71, x1] μ) (fun v1 μ1 => (if v1 = 0 then At cr2 d 190 1 [] [71, 0, 0, 0] μ1 else bnd (RD cr2 d 151 [x2, 0, 69] μ1) (fun v2 μ2 => (if v2 = 0 then At cr2 d 190 1 [] [71, 0, 0, 0] μ2 else bnd (RD cr2 d 151 [x3, 0, 80] μ2) (fun v3 μ3 => (if v3 = 0 then At cr2 d 190 1 [] [71, 0, 0, 0] μ3 else At cr2 d 190 2 [] [71, x1, x2, x3] μ3)))))) := (At_eq cr2 d 190 0 _ _ _).trans rfl
set_option maxRecDepth 20000 in
theorem B190_1 (d : Nat) (μ : amM) : At cr2 d 190 1 [] [71, 0, 0, 0] μ = bnd (RD cr2 d 150 [71, 1] μ) (fun v1 μ1 => some (v1, μ1)) := (At_eq cr2 d 190 1 _ _ _).trans rfl
set_option maxRecDepth 20000 in
theorem B190_2 (d : Nat) (x1 x2 x3 : Int) (μ : amM) : At cr2 d 190 2 [] [71, x1, x2, x3] μ = bnd (RD cr2 d 155 [71, x1] μ) (fun v1 μ1 => (if v1 = 0 then bnd (RD cr2 d 150 [71, 3] μ1) (fun v2 μ2 => some (v2, μ2)) else At cr2 d 190 3 [] [71, x1, x2, x3] μ1)) := (At_eq cr2 d 190 2 _ _ _).trans rfl
set_option maxRecDepth 20000 in
theorem B190_3 (d : Nat) (x1 x2 x3 : Int) (μ : amM) : At cr2 d 190 3 [] [71, x1, x2, x3] μ = bnd (RD cr2 d 189 [71, x1, x2, x3] μ) (fun v1 μ1 => (if v1 = 0 then At cr2 d 190 4 [] [71, 0, 0, 0] μ1 else bnd (RD cr2 d 184 [71] μ1) (fun v2 μ2 => At cr2 d 190 5 [v2] [0, 0, 0, 0] μ2))) := (At_eq cr2 d 190 3 _ _ _).trans rfl
set_option maxRecDepth 20000 in
theorem B190_4 (d : Nat) (μ : amM) : At cr2 d 190 4 [] [71, 0, 0, 0] μ = bnd (RD cr2 d 150 [71, 5] μ) (fun v1 μ1 => At cr2 d 190 5 [v1] [0, 0, 0, 0] μ1) := (At_eq cr2 d 190 4 _ _ _).trans rfl
set_option maxRecDepth 20000 in
theorem B190_5 (d : Nat) (s0 : Int) (μ : amM) : At cr2 d 190 5 [s0] [0, 0, 0, 0] μ = some (s0, μ) := (At_eq cr2 d 190 5 _ _ _).trans rfl
set_option maxRecDepth 20000 in
theorem B191_0 (d : Nat) (x1 : Int) (μ : amM) : At cr2 d 191 0 [] [71, x1, 0, 0] μ = At cr2 d 191 1 [] [71, x1, 0, 0] μ := (At_eq cr2 d 191 0 _ _ _).trans rfl
set_option maxRecDepth 20000 in
theorem B191_1 (d : Nat) (x1 x2 x3 : Int) (μ : amM) : At cr2 d 191 1 [] [71, x1, x2, x3] μ = (if x3 < 4 then bnd (RD cr2 d 157 [71, x1, x3] μ) (fun v1 μ1 => At cr2 d 191 1 [] [71, x1, (w32 ((w32 (3 * x2)) + (v1.tmod 3))), (w32 (x3 + 1))] μ1) else At cr2 d 191 2 [] [0, 0, x2, 0] μ) := (At_eq cr2 d 191 1 _ _ _).trans rfl
set_option maxRecDepth 20000 in
theorem B191_2 (d : Nat) (x2 : Int) (μ : amM) : At cr2 d 191 2 [] [0, 0, x2, 0] μ = some (x2, μ) := (At_eq cr2 d 191 2 _ _ _).trans rfl
set_option maxRecDepth 20000 in
theorem B192_0 (d : Nat) (x1 : Int) (μ : amM) : At cr2 d 192 0 [] [71, x1, 0] μ = bnd (RD cr2 d 154 [71, x1] μ) (fun v1 μ1 => (if v1 = 0 then bnd (RD cr2 d 150 [71, 1] μ1) (fun v2 μ2 => some (v2, μ2)) else At cr2 d 192 1 [] [71, x1, 0] μ1)) := (At_eq cr2 d 192 0 _ _ _).trans rfl
set_option maxRecDepth 20000 in
theorem B192_1 (d : Nat) (x1 : Int) (μ : amM) : At cr2 d 192 1 [] [71, x1, 0] μ = bnd (RD cr2 d 155 [71, x1] μ) (fun v1 μ1 => (if v1 = 0 then At cr2 d 192 2 [] [71, x1, 0] μ1 else bnd (RD cr2 d 150 [71, 2] μ1) (fun v2 μ2 => some (v2, μ2)))) := (At_eq cr2 d 192 1 _ _ _).trans rfl
set_option maxRecDepth 20000 in
theorem B192_2 (d : Nat) (x1 : Int) (μ : amM) : At cr2 d 192 2 [] [71, x1, 0] μ = bnd (RD cr2 d 191 [71, x1] μ) (fun v1 μ1 => bnd (RD cr2 d 183 [71, x1] μ1) (fun _ μ2 => some (v1, μ2))) := (At_eq cr2 d 192 2 _ _ _).trans rfl
set_option maxRecDepth 20000 in
theorem B193_0 (d : Nat) (x1 x2 : Int) (μ : amM) : At cr2 d 193 0 [] [71, x1, x2] μ = bnd (RD cr2 d 154 [71, x1] μ) (fun v1 μ1 => (if v1 = 0 then At cr2 d 193 1 [] [71, 0, 0] μ1 else bnd (RD cr2 d 151 [x2, 0, 11] μ1) (fun v2 μ2 => (if v2 = 0 then At cr2 d 193 1 [] [71, 0, 0] μ2 else At cr2 d 193 2 [] [71, x1, x2] μ2)))) := (At_eq cr2 d 193 0 _ _ _).trans rfl
set_option maxRecDepth 20000 in
theorem B193_1 (d : Nat) (μ : amM) : At cr2 d 193 1 [] [71, 0, 0] μ = bnd (RD cr2 d 150 [71, 1] μ) (fun v1 μ1 => some (v1, μ1)) := (At_eq cr2 d 193 1 _ _ _).trans rfl
set_option maxRecDepth 20000 in
theorem B193_2 (d : Nat) (x1 x2 : Int) (μ : amM) : At cr2 d 193 2 [] [71, x1, x2] μ = (if x2 = 0 then bnd (RD cr2 d 155 [71, x1] μ) (fun v1 μ1 => (if v1 = 0 then At cr2 d 193 3 [] [0, 0, 0] μ1 else At cr2 d 193 4 [0] [0, 0, 0] μ1)) else At cr2 d 193 5 [] [71, x1, x2] μ) := (At_eq cr2 d 193 2 _ _ _).trans rfl
set_option maxRecDepth 20000 in
theorem B193_3 (d : Nat) (μ : amM) : At cr2 d 193 3 [] [0, 0, 0] μ = At cr2 d 193 4 [1] [0, 0, 0] μ := (At_eq cr2 d 193 3 _ _ _).trans rfl
set_option maxRecDepth 20000 in
theorem B193_4 (d : Nat) (s0 : Int) (μ : amM) : At cr2 d 193 4 [s0] [0, 0, 0] μ = some (s0, μ) := (At_eq cr2 d 193 4 _ _ _).trans rfl
set_option maxRecDepth 20000 in
theorem B193_5 (d : Nat) (x1 x2 : Int) (μ : amM) : At cr2 d 193 5 [] [71, x1, x2] μ = bnd (RD cr2 d 155 [71, x1] μ) (fun v1 μ1 => (if v1 = 0 then At cr2 d 193 6 [] [71, x1, x2] μ1 else bnd (RD cr2 d 150 [71, 2] μ1) (fun v2 μ2 => some (v2, μ2)))) := (At_eq cr2 d 193 5 _ _ _).trans rfl
set_option maxRecDepth 20000 in
theorem B193_6 (d : Nat) (x1 x2 : Int) (μ : amM) : At cr2 d 193 6 [] [71, x1, x2] μ = (if x2 = 1 then bnd (RD cr2 d 156 [71, x1] μ) (fun v1 μ1 => At cr2 d 193 11 [v1] [0, 0, 0] μ1) else At cr2 d 193 7 [] [71, x1, x2] μ) := (At_eq cr2 d 193 6 _ _ _).trans rfl
set_option maxRecDepth 20000 in
theorem B193_7 (d : Nat) (x1 x2 : Int) (μ : amM) : At cr2 d 193 7 [] [71, x1, x2] μ = (if x2 = 2 then rd 72 576 μ (w32 (84 + x1)) (fun v1 => At cr2 d 193 11 [v1] [0, 0, 0] μ) else At cr2 d 193 8 [] [71, x1, x2] μ) := (At_eq cr2 d 193 7 _ _ _).trans rfl
set_option maxRecDepth 20000 in
theorem B193_8 (d : Nat) (x1 x2 : Int) (μ : amM) : At cr2 d 193 8 [] [71, x1, x2] μ = (if x2 < 7 then bnd (RD cr2 d 157 [71, x1, (w32 (x2 - 3))] μ) (fun v1 μ1 => At cr2 d 193 11 [v1] [0, 0, 0] μ1) else At cr2 d 193 9 [] [71, x1, x2] μ) := (At_eq cr2 d 193 8 _ _ _).trans rfl
set_option maxRecDepth 20000 in
theorem B193_9 (d : Nat) (x1 x2 : Int) (μ : amM) : At cr2 d 193 9 [] [71, x1, x2] μ = (if x2 < 11 then bnd (RD cr2 d 185 [71, x1, (w32 (x2 - 7))] μ) (fun v1 μ1 => At cr2 d 193 11 [v1] [0, 0, 0] μ1) else At cr2 d 193 10 [] [71, x1, 0] μ) := (At_eq cr2 d 193 9 _ _ _).trans rfl
set_option maxRecDepth 20000 in
theorem B193_10 (d : Nat) (x1 : Int) (μ : amM) : At cr2 d 193 10 [] [71, x1, 0] μ = bnd (RD cr2 d 186 [71, x1] μ) (fun v1 μ1 => At cr2 d 193 11 [v1] [0, 0, 0] μ1) := (At_eq cr2 d 193 10 _ _ _).trans rfl
set_option maxRecDepth 20000 in
theorem B193_11 (d : Nat) (s0 : Int) (μ : amM) : At cr2 d 193 11 [s0] [0, 0, 0] μ = some (s0, μ) := (At_eq cr2 d 193 11 _ _ _).trans rfl
set_option maxRecDepth 20000 in
theorem B194_0 (d : Nat) (x1 x2 : Int) (μ : amM) : At cr2 d 194 0 [] [71, x1, x2, 0] μ = bnd (RD cr2 d 154 [71, x1] μ) (fun v1 μ1 => (if v1 = 0 then At cr2 d 194 1 [] [71, 0, 0, 0] μ1 else bnd (RD cr2 d 151 [x2, 0, 69] μ1) (fun v2 μ2 => (if v2 = 0 then At cr2 d 194 1 [] [71, 0, 0, 0] μ2 else At cr2 d 194 2 [] [71, x1, x2, 0] μ2)))) := (At_eq cr2 d 194 0 _ _ _).trans rfl
set_option maxRecDepth 20000 in
theorem B194_1 (d : Nat) (μ : amM) : At cr2 d 194 1 [] [71, 0, 0, 0] μ = bnd (RD cr2 d 150 [71, 1] μ) (fun v1 μ1 => some (v1, μ1)) := (At_eq cr2 d 194 1 _ _ _).trans rfl
set_option maxRecDepth 20000 in
theorem B194_2 (d : Nat) (x1 x2 : Int) (μ : amM) : At cr2 d 194 2 [] [71, x1, x2, 0] μ = bnd (RD cr2 d 155 [71, x1] μ) (fun v1 μ1 => (if v1 = 0 then At cr2 d 194 3 [] [71, x1, x2, 0] μ1 else bnd (RD cr2 d 150 [71, 2] μ1) (fun v2 μ2 => some (v2, μ2)))) := (At_eq cr2 d 194 2 _ _ _).trans rfl
set_option maxRecDepth 20000 in
theorem B194_3 (d : Nat) (x1 x2 : Int) (μ : amM) : At cr2 d 194 3 [] [71, x1, x2, 0] μ = bnd (RD cr2 d 156 [71, x1] μ) (fun v1 μ1 => wr 72 576 μ1 (w32 (20 + x1)) (w32 (1 + (w32 (x2.tdiv 10)))) (fun μ2 => wr 72 576 μ2 (w32 (84 + x1)) (x2.tmod 10) (fun μ3 => some (v1, μ3)))) := (At_eq cr2 d 194 3 _ _ _).trans rfl
set_option maxRecDepth 20000 in
theorem B195_0 (d : Nat) (x0 : Int) (μ : amM) : At cr2 d 195 0 [] [x0] μ = (if x0 < 4 then At cr2 d 195 2 [0] [0] μ else At cr2 d 195 1 [] [x0] μ) := (At_eq cr2 d 195 0 _ _ _).trans rfl
set_option maxRecDepth 20000 in
theorem B195_1 (d : Nat) (x0 : Int) (μ : amM) : At cr2 d 195 1 [] [x0] μ = At cr2 d 195 2 [(w32 (x0 - 3))] [0] μ := (At_eq cr2 d 195 1 _ _ _).trans rfl
set_option maxRecDepth 20000 in
theorem B195_2 (d : Nat) (s0 : Int) (μ : amM) : At cr2 d 195 2 [s0] [0] μ = some (s0, μ) := (At_eq cr2 d 195 2 _ _ _).trans rfl
set_option maxRecDepth 20000 in
theorem B196_0 (d : Nat) (x1 x2 : Int) (μ : amM) : At cr2 d 196 0 [] [71, x1, x2, 0] μ = bnd (RD cr2 d 154 [71, x1] μ) (fun v1 μ1 => (if v1 = 0 then At cr2 d 196 1 [] [71, 0, 0, 0] μ1 else bnd (RD cr2 d 151 [x2, 0, 6] μ1) (fun v2 μ2 => (if v2 = 0 then At cr2 d 196 1 [] [71, 0, 0, 0] μ2 else At cr2 d 196 2 [] [71, x1, x2, 0] μ2)))) := (At_eq cr2 d 196 0 _ _ _).trans rfl
set_option maxRecDepth 20000 in
theorem B196_1 (d : Nat) (μ : amM) : At cr2 d 196 1 [] [71, 0, 0, 0] μ = bnd (RD cr2 d 150 [71, 1] μ) (fun v1 μ1 => some (v1, μ1)) := (At_eq cr2 d 196 1 _ _ _).trans rfl
set_option maxRecDepth 20000 in
theorem B196_2 (d : Nat) (x1 x2 : Int) (μ : amM) : At cr2 d 196 2 [] [71, x1, x2, 0] μ = bnd (RD cr2 d 155 [71, x1] μ) (fun v1 μ1 => (if v1 = 0 then At cr2 d 196 3 [] [71, x1, x2, 0] μ1 else bnd (RD cr2 d 150 [71, 2] μ1) (fun v2 μ2 => some (v2, μ2)))) := (At_eq cr2 d 196 2 _ _ _).trans rfl
set_option maxRecDepth 20000 in
theorem B196_3 (d : Nat) (x1 x2 : Int) (μ : amM) : At cr2 d 196 3 [] [71, x1, x2, 0] μ = bnd (RD cr2 d 156 [71, x1] μ) (fun v1 μ1 => (if x2 = 0 then At cr2 d 196 4 [] [71, x1, 0, 0] μ1 else (if x2 = v1 then At cr2 d 196 4 [] [71, x1, 0, 0] μ1 else bnd (RD cr2 d 195 [v1] μ1) (fun v2 μ2 => (if x2 = v2 then At cr2 d 196 4 [] [71, x1, 0, 0] μ2 else At cr2 d 196 5 [] [71, 0, 0, 0] μ2))))) := (At_eq cr2 d 196 3 _ _ _).trans rfl
set_option maxRecDepth 20000 in
theorem B196_4 (d : Nat) (x1 : Int) (μ : amM) : At cr2 d 196 4 [] [71, x1, 0, 0] μ = rd 72 576 μ (w32 (84 + x1)) (fun v1 => At cr2 d 196 6 [v1] [0, 0, 0, 0] μ) := (At_eq cr2 d 196 4 _ _ _).trans rfl
set_option maxRecDepth 20000 in
theorem B196_5 (d : Nat) (μ : amM) : At cr2 d 196 5 [] [71, 0, 0, 0] μ = bnd (RD cr2 d 150 [71, 5] μ) (fun v1 μ1 => At cr2 d 196 6 [v1] [0, 0, 0, 0] μ1) := (At_eq cr2 d 196 5 _ _ _).trans rfl
set_option maxRecDepth 20000 in
theorem B196_6 (d : Nat) (s0 : Int) (μ : amM) : At cr2 d 196 6 [s0] [0, 0, 0, 0] μ = some (s0, μ) := (At_eq cr2 d 196 6 _ _ _).trans rfl
set_option maxRecDepth 20000 in
theorem B197_0 (d : Nat) (x0 x1 : Int) (μ : amM) : At cr2 d 197 0 [] [x0, x1] μ = bnd (RD cr2 d 151 [x0, 0, 3] μ) (fun v1 μ1 => (if v1 = 0 then At cr2 d 197 1 [] [0, 0] μ1 else bnd (RD cr2 d 151 [x1, 0, 2] μ1) (fun v2 μ2 => (if v2 = 0 then At cr2 d 197 1 [] [0, 0] μ2 else At cr2 d 197 2 [1] [0, 0] μ2)))) := (At_eq cr2 d 197 0 _ _ _).trans rfl
set_option maxRecDepth 20000 in
theorem B197_1 (d : Nat) (μ : amM) : At cr2 d 197 1 [] [0, 0] μ = At cr2 d 197 2 [0] [0, 0] μ := (At_eq cr2 d 197 1 _ _ _).trans rfl
set_option maxRecDepth 20000 in
theorem B197_2 (d : Nat) (s0 : Int) (μ : amM) : At cr2 d 197 2 [s0] [0, 0] μ = rb s0 μ := (At_eq cr2 d 197 2 _ _ _).trans rfl
set_option maxRecDepth 20000 in
theorem B198_0 (d : Nat) (x1 : Int) (μ : amM) : At cr2 d 198 0 [] [71, x1] μ = bnd (RD cr2 d 152 [(w32 ((μ 72 6) + x1)), 0, 999999] μ) (fun v2 μ1 => wf 72 6 μ1 v2 (fun μ2 => some (0, μ2))) := (At_eq cr2 d 198 0 _ _ _).trans rfl
set_option maxRecDepth 20000 in
theorem B199_0 (d : Nat) (x1 x2 x3 : Int) (μ : amM) : At cr2 d 199 0 [] [71, x1, x2, x3, 0] μ = bnd (RD cr2 d 154 [71, x1] μ) (fun v1 μ1 => (if v1 = 0 then At cr2 d 199 1 [] [71, 0, 0, 0, 0] μ1 else bnd (RD cr2 d 197 [x2, x3] μ1) (fun v2 μ2 => (if v2 = 0 then At cr2 d 199 1 [] [71, 0, 0, 0, 0] μ2 else At cr2 d 199 2 [] [71, x1, x2, x3, 0] μ2)))) := (At_eq cr2 d 199 0 _ _ _).trans rfl
set_option maxRecDepth 20000 in
theorem B199_1 (d : Nat) (μ : amM) : At cr2 d 199 1 [] [71, 0, 0, 0, 0] μ = bnd (RD cr2 d 150 [71, 1] μ) (fun v1 μ1 => some (v1, μ1)) := (At_eq cr2 d 199 1 _ _ _).trans rfl
set_option maxRecDepth 20000 in
theorem B199_2 (d : Nat) (x1 x2 x3 : Int) (μ : amM) : At cr2 d 199 2 [] [71, x1, x2, x3, 0] μ = bnd (RD cr2 d 155 [71, x1] μ) (fun v1 μ1 => (if v1 = 0 then At cr2 d 199 3 [] [71, x1, x2, x3, 0] μ1 else bnd (RD cr2 d 150 [71, 2] μ1) (fun v2 μ2 => some (v2, μ2)))) := (At_eq cr2 d 199 2 _ _ _).trans rfl
set_option maxRecDepth 20000 in
theorem B199_3 (d : Nat) (x1 x2 x3 : Int) (μ : amM) : At cr2 d 199 3 [] [71, x1, x2, x3, 0] μ = bnd (RD cr2 d 157 [71, x1, x2] μ) (fun v1 μ1 => (if v1 = x3 then At cr2 d 199 4 [] [71, 0, 0, 0, 0] μ1 else bnd (RD cr2 d 156 [71, x1] μ1) (fun v2 μ2 => (if v2 = 5 then At cr2 d 199 4 [] [71, 0, 0, 0, 0] μ2 else At cr2 d 199 5 [] [71, x1, x2, x3, v1] μ2)))) := (At_eq cr2 d 199 3 _ _ _).trans rfl
set_option maxRecDepth 20000 in
theorem B199_4 (d : Nat) (μ : amM) : At cr2 d 199 4 [] [71, 0, 0, 0, 0] μ = bnd (RD cr2 d 150 [71, 3] μ) (fun v1 μ1 => some (v1, μ1)) := (At_eq cr2 d 199 4 _ _ _).trans rfl
set_option maxRecDepth 20000 in
theorem B199_5 (d : Nat) (x1 x2 x3 x4 : Int) (μ : amM) : At cr2 d 199 5 [] [71, x1, x2, x3, x4] μ = bnd (RD cr2 d 158 [71, x1, x2, x3] μ) (fun _ μ1 => bnd (RD cr2 d 175 [71] μ1) (fun _ μ2 => bnd (RD cr2 d 179 [71, x1] μ2) (fun v1 μ3 => (if v1 = 0 then bnd (RD cr2 d 158 [71, x1, x2, x4] μ3) (fun _ μ4 => bnd (RD cr2 d 150 [71, 5] μ4) (fun v2 μ5 => some (v2, μ5))) else At cr2 d 199 6 [] [71, x1, x2, 0, 0] μ3)))) := (At_eq cr2 d 199 5 _ _ _).trans rfl
set_option maxRecDepth 20000 in
theorem B199_6 (d : Nat) (x1 x2 : Int) (μ : amM) : At cr2 d 199 6 [] [71, x1, x2, 0, 0] μ = bnd (RD cr2 d 185 [71, x1, x2] μ) (fun v1 μ1 => bnd (RD cr2 d 198 [71, v1] μ1) (fun _ μ2 => some ((μ2 72 6), μ2))) := (At_eq cr2 d 199 6 _ _ _).trans rfl
set_option maxRecDepth 20000 in
theorem B200_0 (d : Nat) (x1 x2 : Int) (μ : amM) : At cr2 d 200 0 [] [71, x1, x2] μ = bnd (RD cr2 d 154 [71, x1] μ) (fun v1 μ1 => (if v1 = 0 then At cr2 d 200 1 [] [71, 0, 0] μ1 else bnd (RD cr2 d 154 [71, x2] μ1) (fun v2 μ2 => (if v2 = 0 then At cr2 d 200 1 [] [71, 0, 0] μ2 else At cr2 d 200 2 [] [71, x1, x2] μ2)))) := (At_eq cr2 d 200 0 _ _ _).trans rfl
set_option maxRecDepth 20000 in
theorem B200_1 (d : Nat) (μ : amM) : At cr2 d 200 1 [] [71, 0, 0] μ = bnd (RD cr2 d 150 [71, 1] μ) (fun v1 μ1 => some (v1, μ1)) := (At_eq cr2 d 200 1 _ _ _).trans rfl
set_option maxRecDepth 20000 in
theorem B200_2 (d : Nat) (x1 x2 : Int) (μ : amM) : At cr2 d 200 2 [] [71, x1, x2] μ = bnd (RD cr2 d 155 [71, x1] μ) (fun v1 μ1 => (if v1 = 0 then bnd (RD cr2 d 155 [71, x2] μ1) (fun v2 μ2 => (if v2 = 0 then At cr2 d 200 4 [] [71, x1, x2] μ2 else At cr2 d 200 3 [] [71, 0, 0] μ2)) else At cr2 d 200 3 [] [71, 0, 0] μ1)) := (At_eq cr2 d 200 2 _ _ _).trans rfl
set_option maxRecDepth 20000 in
theorem B200_3 (d : Nat) (μ : amM) : At cr2 d 200 3 [] [71, 0, 0] μ = bnd (RD cr2 d 150 [71, 2] μ) (fun v1 μ1 => At cr2 d 200 5 [v1] [0, 0, 0] μ1) := (At_eq cr2 d 200 3 _ _ _).trans rfl
set_option maxRecDepth 20000 in
theorem B200_4 (d : Nat) (x1 x2 : Int) (μ : amM) : At cr2 d 200 4 [] [71, x1, x2] μ = bnd (RD cr2 d 176 [71, x1, x2] μ) (fun v1 μ1 => At cr2 d 200 5 [v1] [0, 0, 0] μ1) := (At_eq cr2 d 200 4 _ _ _).trans rfl
set_option maxRecDepth 20000 in
theorem B200_5 (d : Nat) (s0 : Int) (μ : amM) : At cr2 d 200 5 [s0] [0, 0, 0] μ = some (s0, μ) := (At_eq cr2 d 200 5 _ _ _).trans rfl
set_option maxRecDepth 20000 in
theorem B201_0 (d : Nat) (x1 x2 : Int) (μ : amM) : At cr2 d 201 0 [] [71, x1, x2, 0, 0, 0] μ = At cr2 d 201 1 [] [71, x1, x2, 1, 0, 0] μ := (At_eq cr2 d 201 0 _ _ _).trans rfl
set_option maxRecDepth 20000 in
theorem B201_1 (d : Nat) (x1 x2 x3 x4 : Int) (μ : amM) : At cr2 d 201 1 [] [71, x1, x2, x3, x4, 0] μ = (if x4 < (μ 71 13) then (if x3 = 0 then At cr2 d 201 6 [] [0, 0, 0, x3, 0, 0] μ else rd 76 128 μ x4 (fun v1 => (if v1 = x1 then rd 77 128 μ x4 (fun v2 => At cr2 d 201 4 [v2] [71, x1, x2, x3, x4, 0] μ) else At cr2 d 201 2 [] [71, x1, x2, x3, x4, 0] μ))) else At cr2 d 201 6 [] [0, 0, 0, x3, 0, 0] μ) := (At_eq cr2 d 201 1 _ _ _).trans rfl
set_option maxRecDepth 20000 in
theorem B201_2 (d : Nat) (x1 x2 x3 x4 : Int) (μ : amM) : At cr2 d 201 2 [] [71, x1, x2, x3, x4, 0] μ = rd 77 128 μ x4 (fun v1 => (if v1 = x1 then rd 76 128 μ x4 (fun v2 => At cr2 d 201 4 [v2] [71, x1, x2, x3, x4, 0] μ) else At cr2 d 201 3 [] [71, x1, x2, x3, x4, 0] μ)) := (At_eq cr2 d 201 2 _ _ _).trans rfl
set_option maxRecDepth 20000 in
theorem B201_3 (d : Nat) (x1 x2 x3 x4 : Int) (μ : amM) : At cr2 d 201 3 [] [71, x1, x2, x3, x4, 0] μ = At cr2 d 201 4 [(-1)] [71, x1, x2, x3, x4, 0] μ := (At_eq cr2 d 201 3 _ _ _).trans rfl
set_option maxRecDepth 20000 in
theorem B201_4 (d : Nat) (s0 x1 x2 x3 x4 : Int) (μ : amM) : At cr2 d 201 4 [s0] [71, x1, x2, x3, x4, 0] μ = (if s0 < 0 then At cr2 d 201 5 [] [71, x1, x2, x3, x4, 0] μ else bnd (RD cr2 d 177 [71, s0] μ) (fun v1 μ1 => (if v1 = 0 then At cr2 d 201 5 [] [71, x1, x2, x3, x4, 0] μ1 else bnd (RD cr2 d 202 [71, s0, x2] μ1) (fun v2 μ2 => bnd (RD cr2 d 151 [v2, (μ2 72 3), (μ2 72 4)] μ2) (fun v5 μ3 => At cr2 d 201 5 [] [71, x1, x2, v5, x4, 0] μ3))))) := (At_eq cr2 d 201 4 _ _ _).trans rfl
set_option maxRecDepth 20000 in
theorem B201_5 (d : Nat) (x1 x2 x3 x4 : Int) (μ : amM) : At cr2 d 201 5 [] [71, x1, x2, x3, x4, 0] μ = At cr2 d 201 1 [] [71, x1, x2, x3, (w32 (x4 + 1)), 0] μ := (At_eq cr2 d 201 5 _ _ _).trans rfl
set_option maxRecDepth 20000 in
theorem B201_6 (d : Nat) (x3 : Int) (μ : amM) : At cr2 d 201 6 [] [0, 0, 0, x3, 0, 0] μ = rb x3 μ := (At_eq cr2 d 201 6 _ _ _).trans rfl
set_option maxRecDepth 20000 in
theorem B202_0 (d : Nat) (x1 x2 : Int) (μ : amM) : At cr2 d 202 0 [] [71, x1, x2, 0, 0, 0] μ = At cr2 d 202 1 [] [71, x1, 0, 0, x2, 3] μ := (At_eq cr2 d 202 0 _ _ _).trans rfl
set_option maxRecDepth 20000 in
theorem B202_1 (d : Nat) (x1 x3 x4 x5 : Int) (μ : amM) : At cr2 d 202 1 [] [71, x1, 0, x3, x4, x5] μ = (if x5 < 0 then At cr2 d 202 4 [] [0, 0, 0, x3, 0, 0] μ else bnd (RD cr2 d 157 [71, x1, x5] μ) (fun v1 μ1 => (if v1 = (x4.tmod 3) then At cr2 d 202 3 [1, x3] [71, x1, 0, 0, x4, x5] μ1 else At cr2 d 202 2 [x3] [71, x1, 0, 0, x4, x5] μ1))) := (At_eq cr2 d 202 1 _ _ _).trans rfl
set_option maxRecDepth 20000 in
theorem B202_2 (d : Nat) (s0 x1 x4 x5 : Int) (μ : amM) : At cr2 d 202 2 [s0] [71, x1, 0, 0, x4, x5] μ = At cr2 d 202 3 [0, s0] [71, x1, 0, 0, x4, x5] μ := (At_eq cr2 d 202 2 _ _ _).trans rfl
set_option maxRecDepth 20000 in
theorem B202_3 (d : Nat) (s0 s1 x1 x4 x5 : Int) (μ : amM) : At cr2 d 202 3 [s0, s1] [71, x1, 0, 0, x4, x5] μ = At cr2 d 202 1 [] [71, x1, 0, (w32 (s1 + s0)), (w32 (x4.tdiv 3)), (w32 (x5 + (-1)))] μ := (At_eq cr2 d 202 3 _ _ _).trans rfl
set_option maxRecDepth 20000 in
theorem B202_4 (d : Nat) (x3 : Int) (μ : amM) : At cr2 d 202 4 [] [0, 0, 0, x3, 0, 0] μ = some (x3, μ) := (At_eq cr2 d 202 4 _ _ _).trans rfl
set_option maxRecDepth 20000 in
theorem B203_0 (d : Nat) (x1 : Int) (μ : amM) : At cr2 d 203 0 [] [71, x1, 0, 0] μ = At cr2 d 203 1 [] [71, x1, 0, 0] μ := (At_eq cr2 d 203 0 _ _ _).trans rfl
set_option maxRecDepth 20000 in
theorem B203_1 (d : Nat) (x1 x2 x3 : Int) (μ : amM) : At cr2 d 203 1 [] [71, x1, x2, x3] μ = (if x3 < 81 then bnd (RD cr2 d 201 [71, x1, x3] μ) (fun v1 μ1 => (if v1 = 0 then At cr2 d 203 2 [x2] [71, x1, 0, x3] μ1 else At cr2 d 203 3 [1, x2] [71, x1, 0, x3] μ1)) else At cr2 d 203 4 [] [0, 0, x2, 0] μ) := (At_eq cr2 d 203 1 _ _ _).trans rfl
set_option maxRecDepth 20000 in
theorem B203_2 (d : Nat) (s0 x1 x3 : Int) (μ : amM) : At cr2 d 203 2 [s0] [71, x1, 0, x3] μ = At cr2 d 203 3 [0, s0] [71, x1, 0, x3] μ := (At_eq cr2 d 203 2 _ _ _).trans rfl
set_option maxRecDepth 20000 in
theorem B203_3 (d : Nat) (s0 s1 x1 x3 : Int) (μ : amM) : At cr2 d 203 3 [s0, s1] [71, x1, 0, x3] μ = At cr2 d 203 1 [] [71, x1, (w32 (s1 + s0)), (w32 (x3 + 1))] μ := (At_eq cr2 d 203 3 _ _ _).trans rfl
set_option maxRecDepth 20000 in
theorem B203_4 (d : Nat) (x2 : Int) (μ : amM) : At cr2 d 203 4 [] [0, 0, x2, 0] μ = some (x2, μ) := (At_eq cr2 d 203 4 _ _ _).trans rfl
set_option maxRecDepth 20000 in
theorem B204_0 (d : Nat) (x1 x2 : Int) (μ : amM) : At cr2 d 204 0 [] [71, x1, x2, 0, 0] μ = bnd (RD cr2 d 154 [71, x1] μ) (fun v1 μ1 => (if v1 = 0 then At cr2 d 204 1 [] [71, 0, 0, 0, 0] μ1 else (if x2 < (-1) then At cr2 d 204 1 [] [71, 0, 0, 0, 0] μ1 else At cr2 d 204 2 [] [71, x1, x2, 0, 0] μ1))) := (At_eq cr2 d 204 0 _ _ _).trans rfl
set_option maxRecDepth 20000 in
theorem B204_1 (d : Nat) (μ : amM) : At cr2 d 204 1 [] [71, 0, 0, 0, 0] μ = bnd (RD cr2 d 150 [71, 1] μ) (fun v1 μ1 => some (v1, μ1)) := (At_eq cr2 d 204 1 _ _ _).trans rfl
set_option maxRecDepth 20000 in
theorem B204_2 (d : Nat) (x1 x2 : Int) (μ : amM) : At cr2 d 204 2 [] [71, x1, x2, 0, 0] μ = bnd (RD cr2 d 175 [71] μ) (fun _ μ1 => (if x2 < 0 then bnd (RD cr2 d 203 [71, x1] μ1) (fun v1 μ2 => some (v1, μ2)) else At cr2 d 204 3 [] [71, x1, x2, 0, 0] μ1)) := (At_eq cr2 d 204 2 _ _ _).trans rfl
set_option maxRecDepth 20000 in
theorem B204_3 (d : Nat) (x1 x2 : Int) (μ : amM) : At cr2 d 204 3 [] [71, x1, x2, 0, 0] μ = At cr2 d 204 4 [] [71, x1, x2, 0, 0] μ := (At_eq cr2 d 204 3 _ _ _).trans rfl
set_option maxRecDepth 20000 in
theorem B204_4 (d : Nat) (x1 x2 x3 x4 : Int) (μ : amM) : At cr2 d 204 4 [] [71, x1, x2, x3, x4] μ = (if x4 < 81 then bnd (RD cr2 d 201 [71, x1, x4] μ) (fun v1 μ1 => (if v1 = 0 then At cr2 d 204 6 [] [71, x1, x2, x3, x4] μ1 else (if x3 = x2 then some (x4, μ1) else At cr2 d 204 5 [] [71, x1, x2, x3, x4] μ1))) else At cr2 d 204 7 [] [71, 0, 0, 0, 0] μ) := (At_eq cr2 d 204 4 _ _ _).trans rfl
set_option maxRecDepth 20000 in
theorem B204_5 (d : Nat) (x1 x2 x3 x4 : Int) (μ : amM) : At cr2 d 204 5 [] [71, x1, x2, x3, x4] μ = At cr2 d 204 6 [] [71, x1, x2, (w32 (x3 + 1)), x4] μ := (At_eq cr2 d 204 5 _ _ _).trans rfl
set_option maxRecDepth 20000 in
theorem B204_6 (d : Nat) (x1 x2 x3 x4 : Int) (μ : amM) : At cr2 d 204 6 [] [71, x1, x2, x3, x4] μ = At cr2 d 204 4 [] [71, x1, x2, x3, (w32 (x4 + 1))] μ := (At_eq cr2 d 204 6 _ _ _).trans rfl
set_option maxRecDepth 20000 in
theorem B204_7 (d : Nat) (μ : amM) : At cr2 d 204 7 [] [71, 0, 0, 0, 0] μ = bnd (RD cr2 d 150 [71, 2] μ) (fun v1 μ1 => some (v1, μ1)) := (At_eq cr2 d 204 7 _ _ _).trans rfl
set_option maxRecDepth 20000 in
theorem B205_0 (d : Nat) (x1 : Int) (μ : amM) : At cr2 d 205 0 [] [71, x1, 0, 0] μ = (if x1 < (-1) then bnd (RD cr2 d 150 [71, 1] μ) (fun v1 μ1 => some (v1, μ1)) else At cr2 d 205 1 [] [71, x1, 0, 0] μ) := (At_eq cr2 d 205 0 _ _ _).trans rfl
set_option maxRecDepth 20000 in
theorem B205_1 (d : Nat) (x1 : Int) (μ : amM) : At cr2 d 205 1 [] [71, x1, 0, 0] μ = bnd (RD cr2 d 175 [71] μ) (fun _ μ1 => bnd (RD cr2 d 180 [71] μ1) (fun _ μ2 => (if x1 < 0 then some ((μ2 71 14), μ2) else At cr2 d 205 2 [] [71, x1, 0, 0] μ2))) := (At_eq cr2 d 205 1 _ _ _).trans rfl
set_option maxRecDepth 20000 in
theorem B205_2 (d : Nat) (x1 : Int) (μ : amM) : At cr2 d 205 2 [] [71, x1, 0, 0] μ = At cr2 d 205 3 [] [71, x1, 0, 0] μ := (At_eq cr2 d 205 2 _ _ _).trans rfl
set_option maxRecDepth 20000 in
theorem B205_3 (d : Nat) (x1 x2 x3 : Int) (μ : amM) : At cr2 d 205 3 [] [71, x1, x2, x3] μ = (if x3 < (μ 71 13) then bnd (RD cr2 d 178 [71, x3] μ) (fun v1 μ1 => (if v1 = 0 then At cr2 d 205 5 [] [71, x1, x2, x3] μ1 else (if x2 = x1 then rd 76 128 μ1 x3 (fun v2 => rd 77 128 μ1 x3 (fun v3 => some ((w32 ((w32 (64 * v2)) + v3)), μ1))) else At cr2 d 205 4 [] [71, x1, x2, x3] μ1))) else At cr2 d 205 6 [] [71, 0, 0, 0] μ) := (At_eq cr2 d 205 3 _ _ _).trans rfl
set_option maxRecDepth 20000 in
theorem B205_4 (d : Nat) (x1 x2 x3 : Int) (μ : amM) : At cr2 d 205 4 [] [71, x1, x2, x3] μ = At cr2 d 205 5 [] [71, x1, (w32 (x2 + 1)), x3] μ := (At_eq cr2 d 205 4 _ _ _).trans rfl
set_option maxRecDepth 20000 in
theorem B205_5 (d : Nat) (x1 x2 x3 : Int) (μ : amM) : At cr2 d 205 5 [] [71, x1, x2, x3] μ = At cr2 d 205 3 [] [71, x1, x2, (w32 (x3 + 1))] μ := (At_eq cr2 d 205 5 _ _ _).trans rfl
set_option maxRecDepth 20000 in
theorem B205_6 (d : Nat) (μ : amM) : At cr2 d 205 6 [] [71, 0, 0, 0] μ = bnd (RD cr2 d 150 [71, 2] μ) (fun v1 μ1 => some (v1, μ1)) := (At_eq cr2 d 205 6 _ _ _).trans rfl
set_option maxRecDepth 20000 in
theorem B206_0 (d : Nat) (x1 x2 x3 : Int) (μ : amM) : At cr2 d 206 0 [] [71, x1, x2, x3, 0, 0] μ = (if (μ 71 21) = (w32 ((w32 (4 * x1)) + x2)) then At cr2 d 206 2 [1] [71, x1, x2, x3, 0, 0] μ else At cr2 d 206 1 [] [71, x1, x2, x3, 0, 0] μ) := (At_eq cr2 d 206 0 _ _ _).trans rfl
set_option maxRecDepth 20000 in
theorem B206_1 (d : Nat) (x1 x2 x3 : Int) (μ : amM) : At cr2 d 206 1 [] [71, x1, x2, x3, 0, 0] μ = At cr2 d 206 2 [0] [71, x1, x2, x3, 0, 0] μ := (At_eq cr2 d 206 1 _ _ _).trans rfl
set_option maxRecDepth 20000 in
theorem B206_2 (d : Nat) (s0 x1 x2 x3 : Int) (μ : amM) : At cr2 d 206 2 [s0] [71, x1, x2, x3, 0, 0] μ = At cr2 d 206 3 [] [71, x1, x2, x3, s0, 0] μ := (At_eq cr2 d 206 2 _ _ _).trans rfl
set_option maxRecDepth 20000 in
theorem B206_3 (d : Nat) (x1 x2 x3 x4 x5 : Int) (μ : amM) : At cr2 d 206 3 [] [71, x1, x2, x3, x4, x5] μ = (if x5 < x3 then (if x4 = 0 then rd 80 6 μ x5 (fun v1 => (if v1 = x1 then rd 81 6 μ x5 (fun v2 => (if v2 = x2 then At cr2 d 206 4 [] [71, x1, x2, x3, 0, x5] μ else At cr2 d 206 5 [] [71, x1, x2, x3, 0, x5] μ)) else At cr2 d 206 5 [] [71, x1, x2, x3, 0, x5] μ)) else At cr2 d 206 4 [] [71, x1, x2, x3, 0, x5] μ) else At cr2 d 206 7 [] [0, 0, 0, 0, x4, 0] μ) := (At_eq cr2 d 206 3 _ _ _).trans rfl
set_option maxRecDepth 20000 in
theorem B206_4 (d : Nat) (x1 x2 x3 x5 : Int) (μ : amM) : At cr2 d 206 4 [] [71, x1, x2, x3, 0, x5] μ = At cr2 d 206 6 [1] [71, x1, x2, x3, 0, x5] μ := (At_eq cr2 d 206 4 _ _ _).trans rfl
set_option maxRecDepth 20000 in
theorem B206_5 (d : Nat) (x1 x2 x3 x5 : Int) (μ : amM) : At cr2 d 206 5 [] [71, x1, x2, x3, 0, x5] μ = At cr2 d 206 6 [0] [71, x1, x2, x3, 0, x5] μ := (At_eq cr2 d 206 5 _ _ _).trans rfl
set_option maxRecDepth 20000 in
theorem B206_6 (d : Nat) (s0 x1 x2 x3 x5 : Int) (μ : amM) : At cr2 d 206 6 [s0] [71, x1, x2, x3, 0, x5] μ = At cr2 d 206 3 [] [71, x1, x2, x3, s0, (w32 (x5 + 1))] μ := (At_eq cr2 d 206 6 _ _ _).trans rfl
set_option maxRecDepth 20000 in
theorem B206_7 (d : Nat) (x4 : Int) (μ : amM) : At cr2 d 206 7 [] [0, 0, 0, 0, x4, 0] μ = rb x4 μ := (At_eq cr2 d 206 7 _ _ _).trans rfl
set_option maxRecDepth 20000 in
theorem B207_0 (d : Nat) (x1 : Int) (μ : amM) : At cr2 d 207 0 [] [71, x1, 0, 0, 0, 0, 0, 0, 0, 0] μ = At cr2 d 207 1 [] [71, x1, (-1), 0, 0, 1, 0, 0, 0, 0] μ := (At_eq cr2 d 207 0 _ _ _).trans rfl
set_option maxRecDepth 20000 in
theorem B207_1 (d : Nat) (x1 x2 x3 x4 x5 : Int) (μ : amM) : At cr2 d 207 1 [] [71, x1, x2, x3, x4, x5, 0, 0, 0, 0] μ = (if x4 < 0 then At cr2 d 207 12 [] [0, 0, x2, 0, 0, 0, 0, 0, 0, 0] μ else (if x5 = 0 then At cr2 d 207 7 [] [71, x1, x2, x3, x4, x5, 0, 0, 0, 0] μ else bnd (RD cr2 d 180 [71] μ) (fun _ μ1 => wr 79 6 μ1 x4 24 (fun μ2 => wr 78 6 μ2 x4 (μ2 71 15) (fun μ3 => (if (μ3 71 14) = 0 then (if x2 < 0 then At cr2 d 207 2 [] [71, x1, 0, x3, x4, 0, 0, 0, 0, 0] μ3 else (if x3 < x2 then At cr2 d 207 2 [] [71, x1, 0, x3, x4, 0, 0, 0, 0, 0] μ3 else At cr2 d 207 3 [] [71, x1, x2, x3, x4, 0, 0, 0, 0, 0] μ3)) else At cr2 d 207 5 [] [71, x1, x2, x3, x4, 0, 0, 0, 0, 0] μ3)))))) := (At_eq cr2 d 207 1 _ _ _).trans rfl
set_option maxRecDepth 20000 in
theorem B207_2 (d : Nat) (x1 x3 x4 : Int) (μ : amM) : At cr2 d 207 2 [] [71, x1, 0, x3, x4, 0, 0, 0, 0, 0] μ = At cr2 d 207 4 [x3] [71, x1, 0, x3, x4, 0, 0, 0, 0, 0] μ := (At_eq cr2 d 207 2 _ _ _).trans rfl
set_option maxRecDepth 20000 in
theorem B207_3 (d : Nat) (x1 x2 x3 x4 : Int) (μ : amM) : At cr2 d 207 3 [] [71, x1, x2, x3, x4, 0, 0, 0, 0, 0] μ = At cr2 d 207 4 [x2] [71, x1, 0, x3, x4, 0, 0, 0, 0, 0] μ := (At_eq cr2 d 207 3 _ _ _).trans rfl
set_option maxRecDepth 20000 in
theorem B207_4 (d : Nat) (s0 x1 x3 x4 : Int) (μ : amM) : At cr2 d 207 4 [s0] [71, x1, 0, x3, x4, 0, 0, 0, 0, 0] μ = At cr2 d 207 6 [] [71, x1, s0, x3, x4, 0, 0, 0, 0, 0] μ := (At_eq cr2 d 207 4 _ _ _).trans rfl
set_option maxRecDepth 20000 in
theorem B207_5 (d : Nat) (x1 x2 x3 x4 : Int) (μ : amM) : At cr2 d 207 5 [] [71, x1, x2, x3, x4, 0, 0, 0, 0, 0] μ = (if x4 < x1 then (if (w32 (4 * (w32 (x1 - x4)))) < (μ 71 14) then At cr2 d 207 6 [] [71, x1, x2, x3, x4, 0, 0, 0, 0, 0] μ else wr 79 6 μ x4 (-1) (fun μ1 => At cr2 d 207 6 [] [71, x1, x2, x3, x4, 0, 0, 0, 0, 0] μ1)) else At cr2 d 207 6 [] [71, x1, x2, x3, x4, 0, 0, 0, 0, 0] μ) := (At_eq cr2 d 207 5 _ _ _).trans rfl
set_option maxRecDepth 20000 in
theorem B207_6 (d : Nat) (x1 x2 x3 x4 : Int) (μ : amM) : At cr2 d 207 6 [] [71, x1, x2, x3, x4, 0, 0, 0, 0, 0] μ = At cr2 d 207 7 [] [71, x1, x2, x3, x4, 0, 0, 0, 0, 0] μ := (At_eq cr2 d 207 6 _ _ _).trans rfl
set_option maxRecDepth 20000 in
theorem B207_7 (d : Nat) (x1 x2 x3 x4 x5 : Int) (μ : amM) : At cr2 d 207 7 [] [71, x1, x2, x3, x4, x5, 0, 0, 0, 0] μ = rd 79 6 μ x4 (fun v1 => wr 79 6 μ x4 (w32 (v1 + 1)) (fun μ1 => rd 79 6 μ1 x4 (fun v2 => (if v2 < 24 then At cr2 d 207 8 [] [71, x1, x2, x3, x4, x5, v2, 0, 0, 0] μ1 else (if (w32 (x4 + (-1))) < 0 then At cr2 d 207 1 [] [71, x1, x2, x3, (w32 (x4 + (-1))), x5, 0, 0, 0, 0] μ1 else rd 80 6 μ1 (w32 (x4 + (-1))) (fun v3 => rd 81 6 μ1 (w32 (x4 + (-1))) (fun v4 => rd 82 6 μ1 (w32 (x4 + (-1))) (fun v5 => bnd (RD cr2 d 158 [71, v3, v4, v5] μ1) (fun _ μ2 => rd 80 6 μ2 (w32 (x4 + (-1))) (fun v6 => rd 81 6 μ2 (w32 (x4 + (-1))) (fun v7 => bnd (RD cr2 d 185 [71, v6, v7] μ2) (fun v8 μ3 => At cr2 d 207 1 [] [71, x1, x2, (w32 (x3 - v8)), (w32 (x4 + (-1))), x5, 0, 0, 0, 0] μ3)))))))))))) := (At_eq cr2 d 207 7 _ _ _).trans rfl
set_option maxRecDepth 20000 in
theorem B207_8 (d : Nat) (x1 x2 x3 x4 x5 x6 : Int) (μ : amM) : At cr2 d 207 8 [] [71, x1, x2, x3, x4, x5, x6, 0, 0, 0] μ = (if x6 < 12 then rd 78 6 μ x4 (fun v1 => rd 76 128 μ v1 (fun v2 => At cr2 d 207 10 [v2] [71, x1, x2, x3, x4, x5, x6, 0, 0, 0] μ)) else At cr2 d 207 9 [] [71, x1, x2, x3, x4, x5, x6, 0, 0, 0] μ) := (At_eq cr2 d 207 8 _ _ _).trans rfl
set_option maxRecDepth 20000 in
theorem B207_9 (d : Nat) (x1 x2 x3 x4 x5 x6 : Int) (μ : amM) : At cr2 d 207 9 [] [71, x1, x2, x3, x4, x5, x6, 0, 0, 0] μ = rd 78 6 μ x4 (fun v1 => rd 77 128 μ v1 (fun v2 => At cr2 d 207 10 [v2] [71, x1, x2, x3, x4, x5, x6, 0, 0, 0] μ)) := (At_eq cr2 d 207 9 _ _ _).trans rfl
set_option maxRecDepth 20000 in
theorem B207_10 (d : Nat) (s0 x1 x2 x3 x4 x5 x6 : Int) (μ : amM) : At cr2 d 207 10 [s0] [71, x1, x2, x3, x4, x5, x6, 0, 0, 0] μ = bnd (RD cr2 d 157 [71, s0, (w32 ((x6.tmod 12).tdiv 3))] μ) (fun v1 μ1 => (if v1 = (x6.tmod 3) then At cr2 d 207 1 [] [71, x1, x2, x3, x4, x5, 0, 0, 0, 0] μ1 else bnd (RD cr2 d 206 [71, s0, (w32 ((x6.tmod 12).tdiv 3)), x4] μ1) (fun v2 μ2 => (if v2 = 0 then At cr2 d 207 11 [] [71, x1, x2, x3, x4, 0, 0, s0, (w32 ((x6.tmod 12).tdiv 3)), (x6.tmod 3)] μ2 else At cr2 d 207 1 [] [71, x1, x2, x3, x4, x5, 0, 0, 0, 0] μ2)))) := (At_eq cr2 d 207 10 _ _ _).trans rfl
set_option maxRecDepth 20000 in
theorem B207_11 (d : Nat) (x1 x2 x3 x4 x7 x8 x9 : Int) (μ : amM) : At cr2 d 207 11 [] [71, x1, x2, x3, x4, 0, 0, x7, x8, x9] μ = wr 80 6 μ x4 x7 (fun μ1 => wr 81 6 μ1 x4 x8 (fun μ2 => bnd (RD cr2 d 157 [71, x7, x8] μ2) (fun v1 μ3 => wr 82 6 μ3 x4 v1 (fun μ4 => bnd (RD cr2 d 185 [71, x7, x8] μ4) (fun v2 μ5 => bnd (RD cr2 d 158 [71, x7, x8, x9] μ5) (fun _ μ6 => At cr2 d 207 1 [] [71, x1, x2, (w32 (x3 + v2)), (w32 (x4 + 1)), 1, 0, 0, 0, 0] μ6)))))) := (At_eq cr2 d 207 11 _ _ _).trans rfl
set_option maxRecDepth 20000 in
theorem B207_12 (d : Nat) (x2 : Int) (μ : amM) : At cr2 d 207 12 [] [0, 0, x2, 0, 0, 0, 0, 0, 0, 0] μ = some (x2, μ) := (At_eq cr2 d 207 12 _ _ _).trans rfl
set_option maxRecDepth 20000 in
theorem B208_0 (d : Nat) (x1 : Int) (μ : amM) : At cr2 d 208 0 [] [71, x1, 0, 0] μ = At cr2 d 208 1 [] [71, x1, 0, 0] μ := (At_eq cr2 d 208 0 _ _ _).trans rfl
set_option maxRecDepth 20000 in
theorem B208_1 (d : Nat) (x1 x2 : Int) (μ : amM) : At cr2 d 208 1 [] [71, x1, x2, 0] μ = (if 4 < (w32 (x2 + x1)) then At cr2 d 208 3 [] [0, 0, 0, 0] μ else bnd (RD cr2 d 207 [71, x2] μ) (fun v1 μ1 => (if v1 < 0 then At cr2 d 208 2 [] [71, x1, x2, 0] μ1 else wf 71 22 μ1 (w32 (x2 + x1)) (fun μ2 => wf 71 23 μ2 v1 (fun μ3 => some (1, μ3)))))) := (At_eq cr2 d 208 1 _ _ _).trans rfl
set_option maxRecDepth 20000 in
theorem B208_2 (d : Nat) (x1 x2 : Int) (μ : amM) : At cr2 d 208 2 [] [71, x1, x2, 0] μ = At cr2 d 208 1 [] [71, x1, (w32 (x2 + 1)), 0] μ := (At_eq cr2 d 208 2 _ _ _).trans rfl
set_option maxRecDepth 20000 in
theorem B208_3 (d : Nat) (μ : amM) : At cr2 d 208 3 [] [0, 0, 0, 0] μ = some (0, μ) := (At_eq cr2 d 208 3 _ _ _).trans rfl
set_option maxRecDepth 20000 in
theorem B209_0 (d : Nat) (x1 x2 x3 : Int) (μ : amM) : At cr2 d 209 0 [] [71, x1, x2, x3, 0, 0, 0] μ = bnd (RD cr2 d 157 [71, x1, x2] μ) (fun v1 μ1 => (if v1 = x3 then At cr2 d 209 1 [] [71, x1, x2, x3, v1, 0, 0] μ1 else bnd (RD cr2 d 156 [71, x1] μ1) (fun v2 μ2 => (if v2 = 5 then some (0, μ2) else At cr2 d 209 1 [] [71, x1, x2, x3, v1, 0, 0] μ2)))) := (At_eq cr2 d 209 0 _ _ _).trans rfl
set_option maxRecDepth 20000 in
theorem B209_1 (d : Nat) (x1 x2 x3 x4 : Int) (μ : amM) : At cr2 d 209 1 [] [71, x1, x2, x3, x4, 0, 0] μ = bnd (RD cr2 d 175 [71] μ) (fun _ μ1 => wf 71 21 μ1 (w32 ((w32 (4 * x1)) + x2)) (fun μ2 => (if x4 = x3 then At cr2 d 209 3 [0] [71, x1, x2, x3, x4, 0, 0] μ2 else At cr2 d 209 2 [] [71, x1, x2, x3, x4, 0, 0] μ2))) := (At_eq cr2 d 209 1 _ _ _).trans rfl
set_option maxRecDepth 20000 in
theorem B209_2 (d : Nat) (x1 x2 x3 x4 : Int) (μ : amM) : At cr2 d 209 2 [] [71, x1, x2, x3, x4, 0, 0] μ = bnd (RD cr2 d 185 [71, x1, x2] μ) (fun v1 μ1 => At cr2 d 209 3 [v1] [71, x1, x2, x3, x4, 0, 0] μ1) := (At_eq cr2 d 209 2 _ _ _).trans rfl
set_option maxRecDepth 20000 in
theorem B209_3 (d : Nat) (s0 x1 x2 x3 x4 : Int) (μ : amM) : At cr2 d 209 3 [s0] [71, x1, x2, x3, x4, 0, 0] μ = bnd (RD cr2 d 158 [71, x1, x2, x3] μ) (fun _ μ1 => (if x4 = x3 then At cr2 d 209 5 [0, 71] [71, x1, x2, 0, x4, s0, 0] μ1 else At cr2 d 209 4 [71] [71, x1, x2, 0, x4, s0, 0] μ1)) := (At_eq cr2 d 209 3 _ _ _).trans rfl
set_option maxRecDepth 20000 in
theorem B209_4 (d : Nat) (x1 x2 x4 x5 : Int) (μ : amM) : At cr2 d 209 4 [71] [71, x1, x2, 0, x4, x5, 0] μ = At cr2 d 209 5 [1, 71] [71, x1, x2, 0, x4, x5, 0] μ := (At_eq cr2 d 209 4 _ _ _).trans rfl
set_option maxRecDepth 20000 in
theorem B209_5 (d : Nat) (s0 x1 x2 x4 x5 : Int) (μ : amM) : At cr2 d 209 5 [s0, 71] [71, x1, x2, 0, x4, x5, 0] μ = bnd (RD cr2 d 208 [71, s0] μ) (fun v1 μ1 => bnd (RD cr2 d 158 [71, x1, x2, x4] μ1) (fun _ μ2 => wf 71 23 μ2 (w32 ((μ2 71 23) + x5)) (fun μ3 => rb v1 μ3))) := (At_eq cr2 d 209 5 _ _ _).trans rfl
set_option maxRecDepth 20000 in
theorem B210_0 (d : Nat) (x1 x2 x3 x4 : Int) (μ : amM) : At cr2 d 210 0 [] [71, x1, x2, x3, x4] μ = bnd (RD cr2 d 154 [71, x1] μ) (fun v1 μ1 => (if v1 = 0 then At cr2 d 210 1 [] [71, 0, 0, 0, 0] μ1 else bnd (RD cr2 d 197 [x2, x3] μ1) (fun v2 μ2 => (if v2 = 0 then At cr2 d 210 1 [] [71, 0, 0, 0, 0] μ2 else bnd (RD cr2 d 151 [x4, 0, 1] μ2) (fun v3 μ3 => (if v3 = 0 then At cr2 d 210 1 [] [71, 0, 0, 0, 0] μ3 else At cr2 d 210 2 [] [71, x1, x2, x3, x4] μ3)))))) := (At_eq cr2 d 210 0 _ _ _).trans rfl
set_option maxRecDepth 20000 in
theorem B210_1 (d : Nat) (μ : amM) : At cr2 d 210 1 [] [71, 0, 0, 0, 0] μ = bnd (RD cr2 d 150 [71, 1] μ) (fun v1 μ1 => some (v1, μ1)) := (At_eq cr2 d 210 1 _ _ _).trans rfl
set_option maxRecDepth 20000 in
theorem B210_2 (d : Nat) (x1 x2 x3 x4 : Int) (μ : amM) : At cr2 d 210 2 [] [71, x1, x2, x3, x4] μ = bnd (RD cr2 d 155 [71, x1] μ) (fun v1 μ1 => (if v1 = 0 then bnd (RD cr2 d 209 [71, x1, x2, x3] μ1) (fun v2 μ2 => (if v2 = 0 then At cr2 d 210 3 [] [71, 0, 0, 0, 0] μ2 else At cr2 d 210 4 [] [71, 0, 0, 0, x4] μ2)) else At cr2 d 210 3 [] [71, 0, 0, 0, 0] μ1)) := (At_eq cr2 d 210 2 _ _ _).trans rfl
set_option maxRecDepth 20000 in
theorem B210_3 (d : Nat) (μ : amM) : At cr2 d 210 3 [] [71, 0, 0, 0, 0] μ = bnd (RD cr2 d 150 [71, 2] μ) (fun v1 μ1 => some (v1, μ1)) := (At_eq cr2 d 210 3 _ _ _).trans rfl
set_option maxRecDepth 20000 in
theorem B210_4 (d : Nat) (x4 : Int) (μ : amM) : At cr2 d 210 4 [] [71, 0, 0, 0, x4] μ = (if x4 = 0 then At cr2 d 210 6 [(μ 71 22)] [0, 0, 0, 0, 0] μ else At cr2 d 210 5 [] [71, 0, 0, 0, 0] μ) := (At_eq cr2 d 210 4 _ _ _).trans rfl
set_option maxRecDepth 20000 in
theorem B210_5 (d : Nat) (μ : amM) : At cr2 d 210 5 [] [71, 0, 0, 0, 0] μ = At cr2 d 210 6 [(μ 71 23)] [0, 0, 0, 0, 0] μ := (At_eq cr2 d 210 5 _ _ _).trans rfl
set_option maxRecDepth 20000 in
theorem B210_6 (d : Nat) (s0 : Int) (μ : amM) : At cr2 d 210 6 [s0] [0, 0, 0, 0, 0] μ = some (s0, μ) := (At_eq cr2 d 210 6 _ _ _).trans rfl
set_option maxRecDepth 20000 in
theorem B211_0 (d : Nat) (μ : amM) : At cr2 d 211 0 [] [71] μ = bnd (RD cr2 d 175 [71] μ) (fun _ μ1 => wf 71 21 μ1 (-1) (fun μ2 => bnd (RD cr2 d 208 [71, 0] μ2) (fun v1 μ3 => (if v1 = 0 then At cr2 d 211 1 [] [71] μ3 else At cr2 d 211 2 [(μ3 71 22)] [0] μ3)))) := (At_eq cr2 d 211 0 _ _ _).trans rfl
set_option maxRecDepth 20000 in
theorem B211_1 (d : Nat) (μ : amM) : At cr2 d 211 1 [] [71] μ = bnd (RD cr2 d 150 [71, 2] μ) (fun v1 μ1 => At cr2 d 211 2 [v1] [0] μ1) := (At_eq cr2 d 211 1 _ _ _).trans rfl
set_option maxRecDepth 20000 in
theorem B211_2 (d : Nat) (s0 : Int) (μ : amM) : At cr2 d 211 2 [s0] [0] μ = some (s0, μ) := (At_eq cr2 d 211 2 _ _ _).trans rfl
set_option maxRecDepth 20000 in
theorem B212_0 (d : Nat) (x1 : Int) (μ : amM) : At cr2 d 212 0 [] [71, x1, 0, 0] μ = wf 83 0 μ x1 (fun μ1 => wf 71 25 μ1 1 (fun μ2 => At cr2 d 212 1 [] [71, x1, 0, 0] μ2)) := (At_eq cr2 d 212 0 _ _ _).trans rfl
set_option maxRecDepth 20000 in
theorem B212_1 (d : Nat) (x1 x2 : Int) (μ : amM) : At cr2 d 212 1 [] [71, x1, x2, 0] μ = (if x2 < (μ 71 13) then rd 76 128 μ x2 (fun v1 => (if v1 = x1 then rd 77 128 μ x2 (fun v2 => At cr2 d 212 4 [v2] [71, x1, x2, 0] μ) else At cr2 d 212 2 [] [71, x1, x2, 0] μ)) else At cr2 d 212 6 [] [0, 0, 0, 0] μ) := (At_eq cr2 d 212 1 _ _ _).trans rfl
set_option maxRecDepth 20000 in
theorem B212_2 (d : Nat) (x1 x2 : Int) (μ : amM) : At cr2 d 212 2 [] [71, x1, x2, 0] μ = rd 77 128 μ x2 (fun v1 => (if v1 = x1 then rd 76 128 μ x2 (fun v2 => At cr2 d 212 4 [v2] [71, x1, x2, 0] μ) else At cr2 d 212 3 [] [71, x1, x2, 0] μ)) := (At_eq cr2 d 212 2 _ _ _).trans rfl
set_option maxRecDepth 20000 in
theorem B212_3 (d : Nat) (x1 x2 : Int) (μ : amM) : At cr2 d 212 3 [] [71, x1, x2, 0] μ = At cr2 d 212 4 [(-1)] [71, x1, x2, 0] μ := (At_eq cr2 d 212 3 _ _ _).trans rfl
set_option maxRecDepth 20000 in
theorem B212_4 (d : Nat) (s0 x1 x2 : Int) (μ : amM) : At cr2 d 212 4 [s0] [71, x1, x2, 0] μ = (if s0 < 0 then At cr2 d 212 5 [] [71, x1, x2, 0] μ else wr 83 5 μ (μ 71 25) s0 (fun μ1 => wf 71 25 μ1 (w32 ((μ1 71 25) + 1)) (fun μ2 => At cr2 d 212 5 [] [71, x1, x2, 0] μ2))) := (At_eq cr2 d 212 4 _ _ _).trans rfl
set_option maxRecDepth 20000 in
theorem B212_5 (d : Nat) (x1 x2 : Int) (μ : amM) : At cr2 d 212 5 [] [71, x1, x2, 0] μ = At cr2 d 212 1 [] [71, x1, (w32 (x2 + 1)), 0] μ := (At_eq cr2 d 212 5 _ _ _).trans rfl
set_option maxRecDepth 20000 in
theorem B212_6 (d : Nat) (μ : amM) : At cr2 d 212 6 [] [0, 0, 0, 0] μ = some (0, μ) := (At_eq cr2 d 212 6 _ _ _).trans rfl
set_option maxRecDepth 20000 in
theorem B213_0 (d : Nat) (x1 x2 x3 : Int) (μ : amM) : At cr2 d 213 0 [] [71, x1, x2, x3] μ = bnd (RD cr2 d 177 [71, x1] μ) (fun v1 μ1 => (if v1 = 0 then At cr2 d 213 1 [] [0, 0, 0, 0] μ1 else bnd (RD cr2 d 157 [71, x1, x2] μ1) (fun v2 μ2 => (if v2 = x3 then At cr2 d 213 1 [] [0, 0, 0, 0] μ2 else At cr2 d 213 2 [1] [0, 0, 0, 0] μ2)))) := (At_eq cr2 d 213 0 _ _ _).trans rfl
set_option maxRecDepth 20000 in
theorem B213_1 (d : Nat) (μ : amM) : At cr2 d 213 1 [] [0, 0, 0, 0] μ = At cr2 d 213 2 [0] [0, 0, 0, 0] μ := (At_eq cr2 d 213 1 _ _ _).trans rfl
set_option maxRecDepth 20000 in
theorem B213_2 (d : Nat) (s0 : Int) (μ : amM) : At cr2 d 213 2 [s0] [0, 0, 0, 0] μ = rb s0 μ := (At_eq cr2 d 213 2 _ _ _).trans rfl
set_option maxRecDepth 20000 in
theorem B214_0 (d : Nat) (x1 x2 x3 : Int) (μ : amM) : At cr2 d 214 0 [] [71, x1, x2, x3, 0, 0] μ = bnd (RD cr2 d 213 [71, x1, x2, x3] μ) (fun v1 μ1 => (if v1 = 0 then some (0, μ1) else At cr2 d 214 1 [] [71, x1, x2, x3, 0, 0] μ1)) := (At_eq cr2 d 214 0 _ _ _).trans rfl
set_option maxRecDepth 20000 in
theorem B214_1 (d : Nat) (x1 x2 x3 : Int) (μ : amM) : At cr2 d 214 1 [] [71, x1, x2, x3, 0, 0] μ = bnd (RD cr2 d 157 [71, x1, x2] μ) (fun v1 μ1 => bnd (RD cr2 d 158 [71, x1, x2, x3] μ1) (fun _ μ2 => bnd (RD cr2 d 179 [71, x1] μ2) (fun v2 μ3 => bnd (RD cr2 d 158 [71, x1, x2, v1] μ3) (fun _ μ4 => rb v2 μ4)))) := (At_eq cr2 d 214 1 _ _ _).trans rfl
set_option maxRecDepth 20000 in
theorem B215_0 (d : Nat) (x1 x2 x3 x4 : Int) (μ : amM) : At cr2 d 215 0 [] [71, x1, x2, x3, x4, 0, 0, 0, 0, 0] μ = (if x1 = 0 then bnd (RD cr2 d 214 [71, x2, x3, x4] μ) (fun v1 μ1 => rb v1 μ1) else At cr2 d 215 1 [] [71, x1, x2, x3, x4, 0, 0, 0, 0, 0] μ) := (At_eq cr2 d 215 0 _ _ _).trans rfl
set_option maxRecDepth 20000 in
theorem B215_1 (d : Nat) (x1 x2 x3 x4 : Int) (μ : amM) : At cr2 d 215 1 [] [71, x1, x2, x3, x4, 0, 0, 0, 0, 0] μ = At cr2 d 215 2 [] [71, x1, x2, x3, x4, 0, 0, 0, 0, 0] μ := (At_eq cr2 d 215 1 _ _ _).trans rfl
set_option maxRecDepth 20000 in
theorem B215_2 (d : Nat) (x1 x2 x3 x4 x5 x6 : Int) (μ : amM) : At cr2 d 215 2 [] [71, x1, x2, x3, x4, x5, x6, 0, 0, 0] μ = (if x6 < (w32 (12 * (μ 71 25))) then (if x5 = 0 then rd 83 5 μ (w32 (x6.tdiv 12)) (fun v1 => bnd (RD cr2 d 213 [71, v1, (w32 ((x6.tmod 12).tdiv 3)), (x6.tmod 3)] μ) (fun v2 μ1 => (if v2 = 0 then At cr2 d 215 7 [] [71, x1, x2, x3, x4, x5, x6, 0, 0, 0] μ1 else At cr2 d 215 3 [] [71, x1, x2, x3, x4, x5, x6, v1, (w32 ((x6.tmod 12).tdiv 3)), 0] μ1))) else At cr2 d 215 8 [] [0, 0, 0, 0, 0, x5, 0, 0, 0, 0] μ) else At cr2 d 215 8 [] [0, 0, 0, 0, 0, x5, 0, 0, 0, 0] μ) := (At_eq cr2 d 215 2 _ _ _).trans rfl
set_option maxRecDepth 20000 in
theorem B215_3 (d : Nat) (x1 x2 x3 x4 x5 x6 x7 x8 : Int) (μ : amM) : At cr2 d 215 3 [] [71, x1, x2, x3, x4, x5, x6, x7, x8, 0] μ = bnd (RD cr2 d 157 [71, x7, x8] μ) (fun v1 μ1 => bnd (RD cr2 d 158 [71, x7, x8, (x6.tmod 3)] μ1) (fun _ μ2 => bnd (RD cr2 d 179 [71, x7] μ2) (fun v2 μ3 => (if v2 = 0 then At cr2 d 215 6 [] [71, x1, x2, x3, x4, x5, x6, x7, x8, v1] μ3 else (if x1 = 1 then bnd (RD cr2 d 214 [71, x2, x3, x4] μ3) (fun v3 μ4 => At cr2 d 215 5 [v3] [71, x1, x2, x3, x4, 0, x6, x7, x8, v1] μ4) else At cr2 d 215 4 [] [71, x1, x2, x3, x4, 0, x6, x7, x8, v1] μ3))))) := (At_eq cr2 d 215 3 _ _ _).trans rfl
set_option maxRecDepth 20000 in
theorem B215_4 (d : Nat) (x1 x2 x3 x4 x6 x7 x8 x9 : Int) (μ : amM) : At cr2 d 215 4 [] [71, x1, x2, x3, x4, 0, x6, x7, x8, x9] μ = bnd (RD cr2 d 216 [71, x2, x3, x4] μ) (fun v1 μ1 => At cr2 d 215 5 [v1] [71, x1, x2, x3, x4, 0, x6, x7, x8, x9] μ1) := (At_eq cr2 d 215 4 _ _ _).trans rfl
set_option maxRecDepth 20000 in
theorem B215_5 (d : Nat) (s0 x1 x2 x3 x4 x6 x7 x8 x9 : Int) (μ : amM) : At cr2 d 215 5 [s0] [71, x1, x2, x3, x4, 0, x6, x7, x8, x9] μ = At cr2 d 215 6 [] [71, x1, x2, x3, x4, s0, x6, x7, x8, x9] μ := (At_eq cr2 d 215 5 _ _ _).trans rfl
set_option maxRecDepth 20000 in
theorem B215_6 (d : Nat) (x1 x2 x3 x4 x5 x6 x7 x8 x9 : Int) (μ : amM) : At cr2 d 215 6 [] [71, x1, x2, x3, x4, x5, x6, x7, x8, x9] μ = bnd (RD cr2 d 158 [71, x7, x8, x9] μ) (fun _ μ1 => At cr2 d 215 7 [] [71, x1, x2, x3, x4, x5, x6, 0, 0, 0] μ1) := (At_eq cr2 d 215 6 _ _ _).trans rfl
set_option maxRecDepth 20000 in
theorem B215_7 (d : Nat) (x1 x2 x3 x4 x5 x6 : Int) (μ : amM) : At cr2 d 215 7 [] [71, x1, x2, x3, x4, x5, x6, 0, 0, 0] μ = At cr2 d 215 2 [] [71, x1, x2, x3, x4, x5, (w32 (x6 + 1)), 0, 0, 0] μ := (At_eq cr2 d 215 7 _ _ _).trans rfl
set_option maxRecDepth 20000 in
theorem B215_8 (d : Nat) (x5 : Int) (μ : amM) : At cr2 d 215 8 [] [0, 0, 0, 0, 0, x5, 0, 0, 0, 0] μ = rb x5 μ := (At_eq cr2 d 215 8 _ _ _).trans rfl
set_option maxRecDepth 20000 in
theorem B216_0 (d : Nat) (x1 x2 x3 : Int) (μ : amM) : At cr2 d 216 0 [] [71, x1, x2, x3, 0, 0, 0, 0, 0] μ = At cr2 d 216 1 [] [71, x1, x2, x3, 0, 0, 0, 0, 0] μ := (At_eq cr2 d 216 0 _ _ _).trans rfl
set_option maxRecDepth 20000 in
theorem B216_1 (d : Nat) (x1 x2 x3 x4 x5 : Int) (μ : amM) : At cr2 d 216 1 [] [71, x1, x2, x3, x4, x5, 0, 0, 0] μ = (if x5 < (w32 (12 * (μ 71 25))) then (if x4 = 0 then rd 83 5 μ (w32 (x5.tdiv 12)) (fun v1 => bnd (RD cr2 d 213 [71, v1, (w32 ((x5.tmod 12).tdiv 3)), (x5.tmod 3)] μ) (fun v2 μ1 => (if v2 = 0 then At cr2 d 216 5 [] [71, x1, x2, x3, x4, x5, 0, 0, 0] μ1 else At cr2 d 216 2 [] [71, x1, x2, x3, 0, x5, v1, (w32 ((x5.tmod 12).tdiv 3)), 0] μ1))) else At cr2 d 216 6 [] [0, 0, 0, 0, x4, 0, 0, 0, 0] μ) else At cr2 d 216 6 [] [0, 0, 0, 0, x4, 0, 0, 0, 0] μ) := (At_eq cr2 d 216 1 _ _ _).trans rfl
set_option maxRecDepth 20000 in
theorem B216_2 (d : Nat) (x1 x2 x3 x5 x6 x7 : Int) (μ : amM) : At cr2 d 216 2 [] [71, x1, x2, x3, 0, x5, x6, x7, 0] μ = bnd (RD cr2 d 157 [71, x6, x7] μ) (fun v1 μ1 => bnd (RD cr2 d 158 [71, x6, x7, (x5.tmod 3)] μ1) (fun _ μ2 => bnd (RD cr2 d 179 [71, x6] μ2) (fun v2 μ3 => (if v2 = 0 then At cr2 d 216 3 [] [71, x1, x2, x3, 0, x5, x6, x7, v1] μ3 else bnd (RD cr2 d 214 [71, x1, x2, x3] μ3) (fun v3 μ4 => (if v3 = 0 then At cr2 d 216 3 [] [71, x1, x2, x3, 0, x5, x6, x7, v1] μ4 else At cr2 d 216 4 [1] [71, x1, x2, x3, 0, x5, x6, x7, v1] μ4)))))) := (At_eq cr2 d 216 2 _ _ _).trans rfl
set_option maxRecDepth 20000 in
theorem B216_3 (d : Nat) (x1 x2 x3 x5 x6 x7 x8 : Int) (μ : amM) : At cr2 d 216 3 [] [71, x1, x2, x3, 0, x5, x6, x7, x8] μ = At cr2 d 216 4 [0] [71, x1, x2, x3, 0, x5, x6, x7, x8] μ := (At_eq cr2 d 216 3 _ _ _).trans rfl
set_option maxRecDepth 20000 in
theorem B216_4 (d : Nat) (s0 x1 x2 x3 x5 x6 x7 x8 : Int) (μ : amM) : At cr2 d 216 4 [s0] [71, x1, x2, x3, 0, x5, x6, x7, x8] μ = bnd (RD cr2 d 158 [71, x6, x7, x8] μ) (fun _ μ1 => At cr2 d 216 5 [] [71, x1, x2, x3, s0, x5, 0, 0, 0] μ1) := (At_eq cr2 d 216 4 _ _ _).trans rfl
set_option maxRecDepth 20000 in
theorem B216_5 (d : Nat) (x1 x2 x3 x4 x5 : Int) (μ : amM) : At cr2 d 216 5 [] [71, x1, x2, x3, x4, x5, 0, 0, 0] μ = At cr2 d 216 1 [] [71, x1, x2, x3, x4, (w32 (x5 + 1)), 0, 0, 0] μ := (At_eq cr2 d 216 5 _ _ _).trans rfl
set_option maxRecDepth 20000 in
theorem B216_6 (d : Nat) (x4 : Int) (μ : amM) : At cr2 d 216 6 [] [0, 0, 0, 0, x4, 0, 0, 0, 0] μ = rb x4 μ := (At_eq cr2 d 216 6 _ _ _).trans rfl
set_option maxRecDepth 20000 in
theorem B217_0 (d : Nat) (x1 x2 x3 : Int) (μ : amM) : At cr2 d 217 0 [] [71, x1, x2, x3, 0] μ = bnd (RD cr2 d 154 [71, x1] μ) (fun v1 μ1 => (if v1 = 0 then At cr2 d 217 1 [] [71, 0, 0, 0, 0] μ1 else bnd (RD cr2 d 197 [x2, x3] μ1) (fun v2 μ2 => (if v2 = 0 then At cr2 d 217 1 [] [71, 0, 0, 0, 0] μ2 else At cr2 d 217 2 [] [71, x1, x2, x3, 0] μ2)))) := (At_eq cr2 d 217 0 _ _ _).trans rfl
set_option maxRecDepth 20000 in
theorem B217_1 (d : Nat) (μ : amM) : At cr2 d 217 1 [] [71, 0, 0, 0, 0] μ = bnd (RD cr2 d 150 [71, 1] μ) (fun v1 μ1 => some (v1, μ1)) := (At_eq cr2 d 217 1 _ _ _).trans rfl
set_option maxRecDepth 20000 in
theorem B217_2 (d : Nat) (x1 x2 x3 : Int) (μ : amM) : At cr2 d 217 2 [] [71, x1, x2, x3, 0] μ = bnd (RD cr2 d 155 [71, x1] μ) (fun v1 μ1 => (if v1 = 0 then At cr2 d 217 3 [] [71, x1, x2, x3, 0] μ1 else bnd (RD cr2 d 150 [71, 2] μ1) (fun v2 μ2 => some (v2, μ2)))) := (At_eq cr2 d 217 2 _ _ _).trans rfl
set_option maxRecDepth 20000 in
theorem B217_3 (d : Nat) (x1 x2 x3 : Int) (μ : amM) : At cr2 d 217 3 [] [71, x1, x2, x3, 0] μ = bnd (RD cr2 d 175 [71] μ) (fun _ μ1 => bnd (RD cr2 d 181 [71] μ1) (fun v1 μ2 => (if v1 = 0 then bnd (RD cr2 d 150 [71, 3] μ2) (fun v2 μ3 => some (v2, μ3)) else At cr2 d 217 4 [] [71, x1, x2, x3, 0] μ2))) := (At_eq cr2 d 217 3 _ _ _).trans rfl
set_option maxRecDepth 20000 in
theorem B217_4 (d : Nat) (x1 x2 x3 : Int) (μ : amM) : At cr2 d 217 4 [] [71, x1, x2, x3, 0] μ = bnd (RD cr2 d 157 [71, x1, x2] μ) (fun v1 μ1 => (if v1 = x3 then some (0, μ1) else At cr2 d 217 5 [] [71, x1, x2, x3, 0] μ1)) := (At_eq cr2 d 217 4 _ _ _).trans rfl
set_option maxRecDepth 20000 in
theorem B217_5 (d : Nat) (x1 x2 x3 : Int) (μ : amM) : At cr2 d 217 5 [] [71, x1, x2, x3, 0] μ = bnd (RD cr2 d 212 [71, x1] μ) (fun _ μ1 => At cr2 d 217 6 [] [71, x1, x2, x3, 0] μ1) := (At_eq cr2 d 217 5 _ _ _).trans rfl
set_option maxRecDepth 20000 in
theorem B217_6 (d : Nat) (x1 x2 x3 x4 : Int) (μ : amM) : At cr2 d 217 6 [] [71, x1, x2, x3, x4] μ = (if x4 < 3 then bnd (RD cr2 d 215 [71, x4, x1, x2, x3] μ) (fun v1 μ1 => (if v1 = 0 then At cr2 d 217 7 [] [71, x1, x2, x3, x4] μ1 else some ((w32 (x4 + 1)), μ1))) else At cr2 d 217 8 [] [71, 0, 0, 0, 0] μ) := (At_eq cr2 d 217 6 _ _ _).trans rfl
set_option maxRecDepth 20000 in
theorem B217_7 (d : Nat) (x1 x2 x3 x4 : Int) (μ : amM) : At cr2 d 217 7 [] [71, x1, x2, x3, x4] μ = At cr2 d 217 6 [] [71, x1, x2, x3, (w32 (x4 + 1))] μ := (At_eq cr2 d 217 7 _ _ _).trans rfl
set_option maxRecDepth 20000 in
theorem B217_8 (d : Nat) (μ : amM) : At cr2 d 217 8 [] [71, 0, 0, 0, 0] μ = bnd (RD cr2 d 150 [71, 2] μ) (fun v1 μ1 => some (v1, μ1)) := (At_eq cr2 d 217 8 _ _ _).trans rfl
set_option maxRecDepth 20000 in
theorem B218_0 (d : Nat) (x0 x1 : Int) (μ : amM) : At cr2 d 218 0 [] [x0, x1, 0, 0, 0, 0] μ = At cr2 d 218 1 [] [0, 0, 0, x0, x1, 0] μ := (At_eq cr2 d 218 0 _ _ _).trans rfl
set_option maxRecDepth 20000 in
theorem B218_1 (d : Nat) (x2 x3 x4 x5 : Int) (μ : amM) : At cr2 d 218 1 [] [0, 0, x2, x3, x4, x5] μ = (if x5 < 4 then (if (x3.tmod 3) = (x4.tmod 3) then At cr2 d 218 3 [1, x2] [0, 0, 0, x3, x4, x5] μ else At cr2 d 218 2 [x2] [0, 0, 0, x3, x4, x5] μ) else At cr2 d 218 4 [] [0, 0, x2, 0, 0, 0] μ) := (At_eq cr2 d 218 1 _ _ _).trans rfl
set_option maxRecDepth 20000 in
theorem B218_2 (d : Nat) (s0 x3 x4 x5 : Int) (μ : amM) : At cr2 d 218 2 [s0] [0, 0, 0, x3, x4, x5] μ = At cr2 d 218 3 [0, s0] [0, 0, 0, x3, x4, x5] μ := (At_eq cr2 d 218 2 _ _ _).trans rfl
set_option maxRecDepth 20000 in
theorem B218_3 (d : Nat) (s0 s1 x3 x4 x5 : Int) (μ : amM) : At cr2 d 218 3 [s0, s1] [0, 0, 0, x3, x4, x5] μ = At cr2 d 218 1 [] [0, 0, (w32 (s1 + s0)), (w32 (x3.tdiv 3)), (w32 (x4.tdiv 3)), (w32 (x5 + 1))] μ := (At_eq cr2 d 218 3 _ _ _).trans rfl
set_option maxRecDepth 20000 in
theorem B218_4 (d : Nat) (x2 : Int) (μ : amM) : At cr2 d 218 4 [] [0, 0, x2, 0, 0, 0] μ = some (x2, μ) := (At_eq cr2 d 218 4 _ _ _).trans rfl
set_option maxRecDepth 20000 in
theorem B219_0 (d : Nat) (μ : amM) : At cr2 d 219 0 [] [71, 0, 0] μ = At cr2 d 219 1 [] [71, 0, 0] μ := (At_eq cr2 d 219 0 _ _ _).trans rfl
set_option maxRecDepth 20000 in
theorem B219_1 (d : Nat) (x1 : Int) (μ : amM) : At cr2 d 219 1 [] [71, x1, 0] μ = (if x1 < 81 then At cr2 d 219 2 [] [71, x1, 0] μ else At cr2 d 219 4 [] [0, 0, 0] μ) := (At_eq cr2 d 219 1 _ _ _).trans rfl
set_option maxRecDepth 20000 in
theorem B219_2 (d : Nat) (x1 x2 : Int) (μ : amM) : At cr2 d 219 2 [] [71, x1, x2] μ = (if x2 < 81 then bnd (RD cr2 d 218 [x1, x2] μ) (fun v1 μ1 => bnd (RD cr2 d 151 [v1, (μ1 72 3), (μ1 72 4)] μ1) (fun v4 μ2 => amPst 22 μ2 86 (w32 ((w32 (81 * x1)) + x2)) v4 (fun μ3 => At cr2 d 219 2 [] [71, x1, (w32 (x2 + 1))] μ3))) else At cr2 d 219 3 [] [71, x1, 0] μ) := (At_eq cr2 d 219 2 _ _ _).trans rfl
set_option maxRecDepth 20000 in
theorem B219_3 (d : Nat) (x1 : Int) (μ : amM) : At cr2 d 219 3 [] [71, x1, 0] μ = At cr2 d 219 1 [] [71, (w32 (x1 + 1)), 0] μ := (At_eq cr2 d 219 3 _ _ _).trans rfl
set_option maxRecDepth 20000 in
theorem B219_4 (d : Nat) (μ : amM) : At cr2 d 219 4 [] [0, 0, 0] μ = some (0, μ) := (At_eq cr2 d 219 4 _ _ _).trans rfl
set_option maxRecDepth 20000 in
theorem B220_0 (d : Nat) (μ : amM) : At cr2 d 220 0 [] [71, 0, 0] μ = At cr2 d 220 1 [] [71, 0, 0] μ := (At_eq cr2 d 220 0 _ _ _).trans rfl
set_option maxRecDepth 20000 in
theorem B220_1 (d : Nat) (x1 : Int) (μ : amM) : At cr2 d 220 1 [] [71, x1, 0] μ = (if x1 < 81 then wr 85 82 μ x1 0 (fun μ1 => At cr2 d 220 2 [] [71, x1, 0] μ1) else At cr2 d 220 6 [] [71, 0, 0] μ) := (At_eq cr2 d 220 1 _ _ _).trans rfl
set_option maxRecDepth 20000 in
theorem B220_2 (d : Nat) (x1 x2 : Int) (μ : amM) : At cr2 d 220 2 [] [71, x1, x2] μ = (if x2 < 81 then rd 85 82 μ x1 (fun v1 => rd 86 6561 μ (w32 ((w32 (81 * x2)) + x1)) (fun v2 => (if v2 = 0 then At cr2 d 220 3 [v1, x1, 85] [71, x1, x2] μ else rd 84 82 μ x2 (fun v3 => At cr2 d 220 4 [v3, v1, x1, 85] [71, x1, x2] μ)))) else At cr2 d 220 5 [] [71, x1, 0] μ) := (At_eq cr2 d 220 2 _ _ _).trans rfl
set_option maxRecDepth 20000 in
theorem B220_3 (d : Nat) (s0 s1 x1 x2 : Int) (μ : amM) : At cr2 d 220 3 [s0, s1, 85] [71, x1, x2] μ = At cr2 d 220 4 [0, s0, s1, 85] [71, x1, x2] μ := (At_eq cr2 d 220 3 _ _ _).trans rfl
set_option maxRecDepth 20000 in
theorem B220_4 (d : Nat) (s0 s1 s2 x1 x2 : Int) (μ : amM) : At cr2 d 220 4 [s0, s1, s2, 85] [71, x1, x2] μ = wr 85 82 μ s2 (w64 (s1 + s0)) (fun μ1 => At cr2 d 220 2 [] [71, x1, (w32 (x2 + 1))] μ1) := (At_eq cr2 d 220 4 _ _ _).trans rfl
set_option maxRecDepth 20000 in
theorem B220_5 (d : Nat) (x1 : Int) (μ : amM) : At cr2 d 220 5 [] [71, x1, 0] μ = At cr2 d 220 1 [] [71, (w32 (x1 + 1)), 0] μ := (At_eq cr2 d 220 5 _ _ _).trans rfl
set_option maxRecDepth 20000 in
theorem B220_6 (d : Nat) (μ : amM) : At cr2 d 220 6 [] [71, 0, 0] μ = At cr2 d 220 7 [] [71, 0, 0] μ := (At_eq cr2 d 220 6 _ _ _).trans rfl
set_option maxRecDepth 20000 in
theorem B220_7 (d : Nat) (x1 : Int) (μ : amM) : At cr2 d 220 7 [] [71, x1, 0] μ = (if x1 < 81 then rd 85 82 μ x1 (fun v1 => wr 84 82 μ x1 v1 (fun μ1 => At cr2 d 220 7 [] [71, (w32 (x1 + 1)), 0] μ1)) else At cr2 d 220 8 [] [0, 0, 0] μ) := (At_eq cr2 d 220 7 _ _ _).trans rfl
set_option maxRecDepth 20000 in
theorem B220_8 (d : Nat) (μ : amM) : At cr2 d 220 8 [] [0, 0, 0] μ = some (0, μ) := (At_eq cr2 d 220 8 _ _ _).trans rfl
set_option maxRecDepth 20000 in
theorem B221_0 (d : Nat) (x1 : Int) (μ : amM) : At cr2 d 221 0 [] [71, x1, 0, 0, 0] μ = bnd (RD cr2 d 151 [x1, 1, 9] μ) (fun v1 μ1 => (if v1 = 0 then bnd (RD cr2 d 150 [71, 1] μ1) (fun v2 μ2 => some (v2, μ2)) else At cr2 d 221 1 [] [71, x1, 0, 0, 0] μ1)) := (At_eq cr2 d 221 0 _ _ _).trans rfl
set_option maxRecDepth 20000 in
theorem B221_1 (d : Nat) (x1 : Int) (μ : amM) : At cr2 d 221 1 [] [71, x1, 0, 0, 0] μ = bnd (RD cr2 d 219 [71] μ) (fun _ μ1 => At cr2 d 221 2 [] [71, x1, 0, 0, 0] μ1) := (At_eq cr2 d 221 1 _ _ _).trans rfl
set_option maxRecDepth 20000 in
theorem B221_2 (d : Nat) (x1 x2 x4 : Int) (μ : amM) : At cr2 d 221 2 [] [71, x1, x2, 0, x4] μ = (if x4 < 81 then wr 84 82 μ x4 1 (fun μ1 => At cr2 d 221 2 [] [71, x1, x2, 0, (w32 (x4 + 1))] μ1) else At cr2 d 221 3 [] [71, x1, x2, 0, 0] μ) := (At_eq cr2 d 221 2 _ _ _).trans rfl
set_option maxRecDepth 20000 in
theorem B221_3 (d : Nat) (x1 x2 : Int) (μ : amM) : At cr2 d 221 3 [] [71, x1, x2, 0, 0] μ = At cr2 d 221 4 [] [71, x1, x2, 0, 1] μ := (At_eq cr2 d 221 3 _ _ _).trans rfl
set_option maxRecDepth 20000 in
theorem B221_4 (d : Nat) (x1 x2 x4 : Int) (μ : amM) : At cr2 d 221 4 [] [71, x1, x2, 0, x4] μ = (if x4 < x1 then bnd (RD cr2 d 220 [71] μ) (fun _ μ1 => At cr2 d 221 4 [] [71, x1, x2, 0, (w32 (x4 + 1))] μ1) else At cr2 d 221 5 [] [71, 0, x2, 0, 0] μ) := (At_eq cr2 d 221 4 _ _ _).trans rfl
set_option maxRecDepth 20000 in
theorem B221_5 (d : Nat) (x2 : Int) (μ : amM) : At cr2 d 221 5 [] [71, 0, x2, 0, 0] μ = At cr2 d 221 6 [] [71, 0, x2, 0, 0] μ := (At_eq cr2 d 221 5 _ _ _).trans rfl
set_option maxRecDepth 20000 in
theorem B221_6 (d : Nat) (x2 x4 : Int) (μ : amM) : At cr2 d 221 6 [] [71, 0, x2, 0, x4] μ = (if x4 < 81 then rd 84 82 μ x4 (fun v1 => At cr2 d 221 6 [] [71, 0, (w64 (x2 + v1)), 0, (w32 (x4 + 1))] μ) else At cr2 d 221 7 [] [0, 0, x2, 0, 0] μ) := (At_eq cr2 d 221 6 _ _ _).trans rfl
set_option maxRecDepth 20000 in
theorem B221_7 (d : Nat) (x2 : Int) (μ : amM) : At cr2 d 221 7 [] [0, 0, x2, 0, 0] μ = some (x2, μ) := (At_eq cr2 d 221 7 _ _ _).trans rfl
set_option maxRecDepth 20000 in
theorem B222_0 (d : Nat) (x1 : Int) (μ : amM) : At cr2 d 222 0 [] [71, x1, 0, 0, 0, 0] μ = bnd (RD cr2 d 151 [x1, 3, 9] μ) (fun v1 μ1 => (if v1 = 0 then bnd (RD cr2 d 150 [71, 1] μ1) (fun v2 μ2 => some (v2, μ2)) else At cr2 d 222 1 [] [71, x1, 0, 0, 0, 0] μ1)) := (At_eq cr2 d 222 0 _ _ _).trans rfl
set_option maxRecDepth 20000 in
theorem B222_1 (d : Nat) (x1 : Int) (μ : amM) : At cr2 d 222 1 [] [71, x1, 0, 0, 0, 0] μ = bnd (RD cr2 d 219 [71] μ) (fun _ μ1 => At cr2 d 222 2 [] [71, x1, 0, 0, 0, 0] μ1) := (At_eq cr2 d 222 1 _ _ _).trans rfl
set_option maxRecDepth 20000 in
theorem B222_2 (d : Nat) (x1 x2 x4 : Int) (μ : amM) : At cr2 d 222 2 [] [71, x1, x2, 0, x4, 0] μ = (if x4 < 81 then At cr2 d 222 3 [] [71, x1, x2, 0, x4, 0] μ else At cr2 d 222 13 [] [0, 0, x2, 0, 0, 0] μ) := (At_eq cr2 d 222 2 _ _ _).trans rfl
set_option maxRecDepth 20000 in
theorem B222_3 (d : Nat) (x1 x2 x4 x5 : Int) (μ : amM) : At cr2 d 222 3 [] [71, x1, x2, 0, x4, x5] μ = (if x5 < 81 then (if x5 = x4 then At cr2 d 222 5 [1, x5, 84] [71, x1, x2, 0, x4, x5] μ else At cr2 d 222 4 [x5, 84] [71, x1, x2, 0, x4, x5] μ) else At cr2 d 222 6 [] [71, x1, x2, 0, x4, 0] μ) := (At_eq cr2 d 222 3 _ _ _).trans rfl
set_option maxRecDepth 20000 in
theorem B222_4 (d : Nat) (s0 x1 x2 x4 x5 : Int) (μ : amM) : At cr2 d 222 4 [s0, 84] [71, x1, x2, 0, x4, x5] μ = At cr2 d 222 5 [0, s0, 84] [71, x1, x2, 0, x4, x5] μ := (At_eq cr2 d 222 4 _ _ _).trans rfl
set_option maxRecDepth 20000 in
theorem B222_5 (d : Nat) (s0 s1 x1 x2 x4 x5 : Int) (μ : amM) : At cr2 d 222 5 [s0, s1, 84] [71, x1, x2, 0, x4, x5] μ = wr 84 82 μ s1 s0 (fun μ1 => At cr2 d 222 3 [] [71, x1, x2, 0, x4, (w32 (x5 + 1))] μ1) := (At_eq cr2 d 222 5 _ _ _).trans rfl
set_option maxRecDepth 20000 in
theorem B222_6 (d : Nat) (x1 x2 x4 : Int) (μ : amM) : At cr2 d 222 6 [] [71, x1, x2, 0, x4, 0] μ = At cr2 d 222 7 [] [71, x1, x2, 0, x4, 1] μ := (At_eq cr2 d 222 6 _ _ _).trans rfl
set_option maxRecDepth 20000 in
theorem B222_7 (d : Nat) (x1 x2 x4 x5 : Int) (μ : amM) : At cr2 d 222 7 [] [71, x1, x2, 0, x4, x5] μ = (if x5 < x1 then bnd (RD cr2 d 220 [71] μ) (fun _ μ1 => At cr2 d 222 7 [] [71, x1, x2, 0, x4, (w32 (x5 + 1))] μ1) else At cr2 d 222 8 [] [71, x1, x2, 0, x4, 0] μ) := (At_eq cr2 d 222 7 _ _ _).trans rfl
set_option maxRecDepth 20000 in
theorem B222_8 (d : Nat) (x1 x2 x4 : Int) (μ : amM) : At cr2 d 222 8 [] [71, x1, x2, 0, x4, 0] μ = At cr2 d 222 9 [] [71, x1, x2, 0, x4, 0] μ := (At_eq cr2 d 222 8 _ _ _).trans rfl
set_option maxRecDepth 20000 in
theorem B222_9 (d : Nat) (x1 x2 x4 x5 : Int) (μ : amM) : At cr2 d 222 9 [] [71, x1, x2, 0, x4, x5] μ = (if x5 < 81 then rd 86 6561 μ (w32 ((w32 (81 * x5)) + x4)) (fun v1 => (if v1 = 0 then At cr2 d 222 10 [x2] [71, x1, 0, 0, x4, x5] μ else rd 84 82 μ x5 (fun v2 => At cr2 d 222 11 [v2, x2] [71, x1, 0, 0, x4, x5] μ))) else At cr2 d 222 12 [] [71, x1, x2, 0, x4, 0] μ) := (At_eq cr2 d 222 9 _ _ _).trans rfl
set_option maxRecDepth 20000 in
theorem B222_10 (d : Nat) (s0 x1 x4 x5 : Int) (μ : amM) : At cr2 d 222 10 [s0] [71, x1, 0, 0, x4, x5] μ = At cr2 d 222 11 [0, s0] [71, x1, 0, 0, x4, x5] μ := (At_eq cr2 d 222 10 _ _ _).trans rfl
set_option maxRecDepth 20000 in
theorem B222_11 (d : Nat) (s0 s1 x1 x4 x5 : Int) (μ : amM) : At cr2 d 222 11 [s0, s1] [71, x1, 0, 0, x4, x5] μ = At cr2 d 222 9 [] [71, x1, (w64 (s1 + s0)), 0, x4, (w32 (x5 + 1))] μ := (At_eq cr2 d 222 11 _ _ _).trans rfl
set_option maxRecDepth 20000 in
theorem B222_12 (d : Nat) (x1 x2 x4 : Int) (μ : amM) : At cr2 d 222 12 [] [71, x1, x2, 0, x4, 0] μ = At cr2 d 222 2 [] [71, x1, x2, 0, (w32 (x4 + 1)), 0] μ := (At_eq cr2 d 222 12 _ _ _).trans rfl
set_option maxRecDepth 20000 in
theorem B222_13 (d : Nat) (x2 : Int) (μ : amM) : At cr2 d 222 13 [] [0, 0, x2, 0, 0, 0] μ = some (x2, μ) := (At_eq cr2 d 222 13 _ _ _).trans rfl
set_option maxRecDepth 20000 in
theorem B223_0 (d : Nat) (x1 x2 x3 x4 : Int) (μ : amM) : At cr2 d 223 0 [] [71, x1, x2, x3, x4] μ = (if x2 = 81 then (if x4 = 81 then bnd (RD cr2 d 177 [71, x1] μ) (fun v1 μ1 => (if v1 = 0 then At cr2 d 223 1 [] [0, 0, 0, 0, 0] μ1 else bnd (RD cr2 d 177 [71, x3] μ1) (fun v2 μ2 => (if v2 = 0 then At cr2 d 223 1 [] [0, 0, 0, 0, 0] μ2 else bnd (RD cr2 d 176 [71, x1, x3] μ2) (fun v3 μ3 => bnd (RD cr2 d 151 [v3, (μ3 72 3), (μ3 72 4)] μ3) (fun v6 μ4 => (if v6 = 0 then At cr2 d 223 2 [] [0, 0, 0, 0, 0] μ4 else At cr2 d 223 1 [] [0, 0, 0, 0, 0] μ4))))))) else At cr2 d 223 4 [] [71, x1, x2, x3, x4] μ) else At cr2 d 223 4 [] [71, x1, x2, x3, x4] μ) := (At_eq cr2 d 223 0 _ _ _).trans rfl
set_option maxRecDepth 20000 in
theorem B223_1 (d : Nat) (μ : amM) : At cr2 d 223 1 [] [0, 0, 0, 0, 0] μ = At cr2 d 223 3 [1] [0, 0, 0, 0, 0] μ := (At_eq cr2 d 223 1 _ _ _).trans rfl
set_option maxRecDepth 20000 in
theorem B223_2 (d : Nat) (μ : amM) : At cr2 d 223 2 [] [0, 0, 0, 0, 0] μ = At cr2 d 223 3 [0] [0, 0, 0, 0, 0] μ := (At_eq cr2 d 223 2 _ _ _).trans rfl
set_option maxRecDepth 20000 in
theorem B223_3 (d : Nat) (s0 : Int) (μ : amM) : At cr2 d 223 3 [s0] [0, 0, 0, 0, 0] μ = rb s0 μ := (At_eq cr2 d 223 3 _ _ _).trans rfl
set_option maxRecDepth 20000 in
theorem B223_4 (d : Nat) (x1 x2 x3 x4 : Int) (μ : amM) : At cr2 d 223 4 [] [71, x1, x2, x3, x4] μ = (if x2 = 81 then bnd (RD cr2 d 177 [71, x1] μ) (fun v1 μ1 => (if v1 = 0 then At cr2 d 223 5 [] [0, 0, 0, 0, 0] μ1 else bnd (RD cr2 d 202 [71, x1, x4] μ1) (fun v2 μ2 => bnd (RD cr2 d 151 [v2, (μ2 72 3), (μ2 72 4)] μ2) (fun v5 μ3 => (if v5 = 0 then At cr2 d 223 6 [] [0, 0, 0, 0, 0] μ3 else At cr2 d 223 5 [] [0, 0, 0, 0, 0] μ3))))) else At cr2 d 223 8 [] [71, 0, x2, x3, x4] μ) := (At_eq cr2 d 223 4 _ _ _).trans rfl
set_option maxRecDepth 20000 in
theorem B223_5 (d : Nat) (μ : amM) : At cr2 d 223 5 [] [0, 0, 0, 0, 0] μ = At cr2 d 223 7 [1] [0, 0, 0, 0, 0] μ := (At_eq cr2 d 223 5 _ _ _).trans rfl
set_option maxRecDepth 20000 in
theorem B223_6 (d : Nat) (μ : amM) : At cr2 d 223 6 [] [0, 0, 0, 0, 0] μ = At cr2 d 223 7 [0] [0, 0, 0, 0, 0] μ := (At_eq cr2 d 223 6 _ _ _).trans rfl
set_option maxRecDepth 20000 in
theorem B223_7 (d : Nat) (s0 : Int) (μ : amM) : At cr2 d 223 7 [s0] [0, 0, 0, 0, 0] μ = rb s0 μ := (At_eq cr2 d 223 7 _ _ _).trans rfl
set_option maxRecDepth 20000 in
theorem B223_8 (d : Nat) (x2 x3 x4 : Int) (μ : amM) : At cr2 d 223 8 [] [71, 0, x2, x3, x4] μ = (if x4 = 81 then bnd (RD cr2 d 177 [71, x3] μ) (fun v1 μ1 => (if v1 = 0 then At cr2 d 223 9 [] [0, 0, 0, 0, 0] μ1 else bnd (RD cr2 d 202 [71, x3, x2] μ1) (fun v2 μ2 => bnd (RD cr2 d 151 [v2, (μ2 72 3), (μ2 72 4)] μ2) (fun v5 μ3 => (if v5 = 0 then At cr2 d 223 10 [] [0, 0, 0, 0, 0] μ3 else At cr2 d 223 9 [] [0, 0, 0, 0, 0] μ3))))) else At cr2 d 223 12 [] [71, 0, x2, 0, x4] μ) := (At_eq cr2 d 223 8 _ _ _).trans rfl
set_option maxRecDepth 20000 in
theorem B223_9 (d : Nat) (μ : amM) : At cr2 d 223 9 [] [0, 0, 0, 0, 0] μ = At cr2 d 223 11 [1] [0, 0, 0, 0, 0] μ := (At_eq cr2 d 223 9 _ _ _).trans rfl
set_option maxRecDepth 20000 in
theorem B223_10 (d : Nat) (μ : amM) : At cr2 d 223 10 [] [0, 0, 0, 0, 0] μ = At cr2 d 223 11 [0] [0, 0, 0, 0, 0] μ := (At_eq cr2 d 223 10 _ _ _).trans rfl
set_option maxRecDepth 20000 in
theorem B223_11 (d : Nat) (s0 : Int) (μ : amM) : At cr2 d 223 11 [s0] [0, 0, 0, 0, 0] μ = rb s0 μ := (At_eq cr2 d 223 11 _ _ _).trans rfl
set_option maxRecDepth 20000 in
theorem B223_12 (d : Nat) (x2 x4 : Int) (μ : amM) : At cr2 d 223 12 [] [71, 0, x2, 0, x4] μ = rd 86 6561 μ (w32 ((w32 (81 * x2)) + x4)) (fun v1 => rb v1 μ) := (At_eq cr2 d 223 12 _ _ _).trans rfl
set_option maxRecDepth 20000 in
theorem B224_0 (d : Nat) (x1 x2 : Int) (μ : amM) : At cr2 d 224 0 [] [71, x1, x2] μ = bnd (RD cr2 d 155 [71, x1] μ) (fun v1 μ1 => (if x2 < 81 then At cr2 d 224 2 [1, v1] [0, 0, 0] μ1 else At cr2 d 224 1 [v1] [0, 0, 0] μ1)) := (At_eq cr2 d 224 0 _ _ _).trans rfl
set_option maxRecDepth 20000 in
theorem B224_1 (d : Nat) (s0 : Int) (μ : amM) : At cr2 d 224 1 [s0] [0, 0, 0] μ = At cr2 d 224 2 [0, s0] [0, 0, 0] μ := (At_eq cr2 d 224 1 _ _ _).trans rfl
set_option maxRecDepth 20000 in
theorem B224_2 (d : Nat) (s0 s1 : Int) (μ : amM) : At cr2 d 224 2 [s0, s1] [0, 0, 0] μ = (if s1 = s0 then At cr2 d 224 4 [1] [0, 0, 0] μ else At cr2 d 224 3 [] [0, 0, 0] μ) := (At_eq cr2 d 224 2 _ _ _).trans rfl
set_option maxRecDepth 20000 in
theorem B224_3 (d : Nat) (μ : amM) : At cr2 d 224 3 [] [0, 0, 0] μ = At cr2 d 224 4 [0] [0, 0, 0] μ := (At_eq cr2 d 224 3 _ _ _).trans rfl
set_option maxRecDepth 20000 in
theorem B224_4 (d : Nat) (s0 : Int) (μ : amM) : At cr2 d 224 4 [s0] [0, 0, 0] μ = rb s0 μ := (At_eq cr2 d 224 4 _ _ _).trans rfl
set_option maxRecDepth 20000 in
theorem B225_0 (d : Nat) (x1 : Int) (μ : amM) : At cr2 d 225 0 [] [71, x1, 0, 0, 0, 0, 0] μ = At cr2 d 225 1 [] [71, x1, (μ 72 1), 0, 0, 0, 0] μ := (At_eq cr2 d 225 0 _ _ _).trans rfl
set_option maxRecDepth 20000 in
theorem B225_1 (d : Nat) (x1 x2 x3 : Int) (μ : amM) : At cr2 d 225 1 [] [71, x1, x2, x3, 0, 0, 0] μ = (if 81 < x3 then At cr2 d 225 4 [] [71, x1, x2, 0, 0, 0, 0] μ else (if x3 = x1 then At cr2 d 225 3 [1, x3, 84] [71, x1, x2, x3, 0, 0, 0] μ else At cr2 d 225 2 [x3, 84] [71, x1, x2, x3, 0, 0, 0] μ)) := (At_eq cr2 d 225 1 _ _ _).trans rfl
set_option maxRecDepth 20000 in
theorem B225_2 (d : Nat) (s0 x1 x2 x3 : Int) (μ : amM) : At cr2 d 225 2 [s0, 84] [71, x1, x2, x3, 0, 0, 0] μ = At cr2 d 225 3 [0, s0, 84] [71, x1, x2, x3, 0, 0, 0] μ := (At_eq cr2 d 225 2 _ _ _).trans rfl
set_option maxRecDepth 20000 in
theorem B225_3 (d : Nat) (s0 s1 x1 x2 x3 : Int) (μ : amM) : At cr2 d 225 3 [s0, s1, 84] [71, x1, x2, x3, 0, 0, 0] μ = wr 84 82 μ s1 s0 (fun μ1 => At cr2 d 225 1 [] [71, x1, x2, (w32 (x3 + 1)), 0, 0, 0] μ1) := (At_eq cr2 d 225 3 _ _ _).trans rfl
set_option maxRecDepth 20000 in
theorem B225_4 (d : Nat) (x1 x2 : Int) (μ : amM) : At cr2 d 225 4 [] [71, x1, x2, 0, 0, 0, 0] μ = At cr2 d 225 5 [] [71, x1, x2, 1, 0, 0, 0] μ := (At_eq cr2 d 225 4 _ _ _).trans rfl
set_option maxRecDepth 20000 in
theorem B225_5 (d : Nat) (x1 x2 x3 : Int) (μ : amM) : At cr2 d 225 5 [] [71, x1, x2, x3, 0, 0, 0] μ = (if x3 < x2 then At cr2 d 225 6 [] [71, x1, x2, x3, 0, 0, 0] μ else At cr2 d 225 14 [] [71, x1, x2, 0, 0, 0, 0] μ) := (At_eq cr2 d 225 5 _ _ _).trans rfl
set_option maxRecDepth 20000 in
theorem B225_6 (d : Nat) (x1 x2 x3 x4 : Int) (μ : amM) : At cr2 d 225 6 [] [71, x1, x2, x3, x4, 0, 0] μ = (if 81 < x4 then At cr2 d 225 11 [] [71, x1, x2, x3, 0, 0, 0] μ else wr 85 82 μ x4 0 (fun μ1 => At cr2 d 225 7 [] [71, x1, x2, x3, x4, 0, 0] μ1)) := (At_eq cr2 d 225 6 _ _ _).trans rfl
set_option maxRecDepth 20000 in
theorem B225_7 (d : Nat) (x1 x2 x3 x4 x5 : Int) (μ : amM) : At cr2 d 225 7 [] [71, x1, x2, x3, x4, x5, 0] μ = (if 81 < x5 then At cr2 d 225 10 [] [71, x1, x2, x3, x4, 0, 0] μ else bnd (RD cr2 d 224 [71, x3, x4] μ) (fun v1 μ1 => (if v1 = 0 then At cr2 d 225 10 [] [71, x1, x2, x3, x4, 0, 0] μ1 else rd 85 82 μ1 x4 (fun v2 => rd 84 82 μ1 x5 (fun v3 => (if 0 < (if v3 < 0 then (-1) else if v3 = 0 then 0 else 1) then bnd (RD cr2 d 223 [71, (w32 (x3 - 1)), x5, x3, x4] μ1) (fun v4 μ2 => (if v4 = 0 then At cr2 d 225 8 [v2, x4, 85] [71, x1, x2, x3, x4, x5, 0] μ2 else rd 84 82 μ2 x5 (fun v5 => At cr2 d 225 9 [v5, v2, x4, 85] [71, x1, x2, x3, x4, x5, 0] μ2))) else At cr2 d 225 8 [v2, x4, 85] [71, x1, x2, x3, x4, x5, 0] μ1)))))) := (At_eq cr2 d 225 7 _ _ _).trans rfl
set_option maxRecDepth 20000 in
theorem B225_8 (d : Nat) (s0 s1 x1 x2 x3 x4 x5 : Int) (μ : amM) : At cr2 d 225 8 [s0, s1, 85] [71, x1, x2, x3, x4, x5, 0] μ = At cr2 d 225 9 [0, s0, s1, 85] [71, x1, x2, x3, x4, x5, 0] μ := (At_eq cr2 d 225 8 _ _ _).trans rfl
set_option maxRecDepth 20000 in
theorem B225_9 (d : Nat) (s0 s1 s2 x1 x2 x3 x4 x5 : Int) (μ : amM) : At cr2 d 225 9 [s0, s1, s2, 85] [71, x1, x2, x3, x4, x5, 0] μ = wr 85 82 μ s2 (w64 (s1 + s0)) (fun μ1 => At cr2 d 225 7 [] [71, x1, x2, x3, x4, (w32 (x5 + 1)), 0] μ1) := (At_eq cr2 d 225 9 _ _ _).trans rfl
set_option maxRecDepth 20000 in
theorem B225_10 (d : Nat) (x1 x2 x3 x4 : Int) (μ : amM) : At cr2 d 225 10 [] [71, x1, x2, x3, x4, 0, 0] μ = At cr2 d 225 6 [] [71, x1, x2, x3, (w32 (x4 + 1)), 0, 0] μ := (At_eq cr2 d 225 10 _ _ _).trans rfl
set_option maxRecDepth 20000 in
theorem B225_11 (d : Nat) (x1 x2 x3 : Int) (μ : amM) : At cr2 d 225 11 [] [71, x1, x2, x3, 0, 0, 0] μ = At cr2 d 225 12 [] [71, x1, x2, x3, 0, 0, 0] μ := (At_eq cr2 d 225 11 _ _ _).trans rfl
set_option maxRecDepth 20000 in
theorem B225_12 (d : Nat) (x1 x2 x3 x4 : Int) (μ : amM) : At cr2 d 225 12 [] [71, x1, x2, x3, x4, 0, 0] μ = (if 81 < x4 then At cr2 d 225 13 [] [71, x1, x2, x3, 0, 0, 0] μ else rd 85 82 μ x4 (fun v1 => wr 84 82 μ x4 v1 (fun μ1 => At cr2 d 225 12 [] [71, x1, x2, x3, (w32 (x4 + 1)), 0, 0] μ1))) := (At_eq cr2 d 225 12 _ _ _).trans rfl
set_option maxRecDepth 20000 in
theorem B225_13 (d : Nat) (x1 x2 x3 : Int) (μ : amM) : At cr2 d 225 13 [] [71, x1, x2, x3, 0, 0, 0] μ = At cr2 d 225 5 [] [71, x1, x2, (w32 (x3 + 1)), 0, 0, 0] μ := (At_eq cr2 d 225 13 _ _ _).trans rfl
set_option maxRecDepth 20000 in
theorem B225_14 (d : Nat) (x1 x2 : Int) (μ : amM) : At cr2 d 225 14 [] [71, x1, x2, 0, 0, 0, 0] μ = (if 0 < (μ 72 2) then (if 2 < x2 then At cr2 d 225 16 [1] [71, x1, x2, 0, 0, 0, 0] μ else At cr2 d 225 15 [] [71, x1, x2, 0, 0, 0, 0] μ) else At cr2 d 225 15 [] [71, x1, x2, 0, 0, 0, 0] μ) := (At_eq cr2 d 225 14 _ _ _).trans rfl
set_option maxRecDepth 20000 in
theorem B225_15 (d : Nat) (x1 x2 : Int) (μ : amM) : At cr2 d 225 15 [] [71, x1, x2, 0, 0, 0, 0] μ = At cr2 d 225 16 [0] [71, x1, x2, 0, 0, 0, 0] μ := (At_eq cr2 d 225 15 _ _ _).trans rfl
set_option maxRecDepth 20000 in
theorem B225_16 (d : Nat) (s0 x1 x2 : Int) (μ : amM) : At cr2 d 225 16 [s0] [71, x1, x2, 0, 0, 0, 0] μ = At cr2 d 225 17 [] [71, x1, x2, s0, 0, 0, 0] μ := (At_eq cr2 d 225 16 _ _ _).trans rfl
set_option maxRecDepth 20000 in
theorem B225_17 (d : Nat) (x1 x2 x3 x4 x6 : Int) (μ : amM) : At cr2 d 225 17 [] [71, x1, x2, x3, x4, 0, x6] μ = (if 81 < x6 then At cr2 d 225 21 [] [0, 0, 0, 0, x4, 0, 0] μ else rd 84 82 μ x6 (fun v1 => (if 0 < (if v1 < 0 then (-1) else if v1 = 0 then 0 else 1) then (if x3 = 0 then At cr2 d 225 18 [x4] [71, x1, x2, x3, 0, 0, x6] μ else bnd (RD cr2 d 223 [71, (w32 (x2 - 1)), x6, 0, x1] μ) (fun v2 μ1 => (if v2 = 0 then At cr2 d 225 19 [x4] [71, x1, x2, x3, 0, 0, x6] μ1 else At cr2 d 225 18 [x4] [71, x1, x2, x3, 0, 0, x6] μ1))) else At cr2 d 225 19 [x4] [71, x1, x2, x3, 0, 0, x6] μ))) := (At_eq cr2 d 225 17 _ _ _).trans rfl
set_option maxRecDepth 20000 in
theorem B225_18 (d : Nat) (s0 x1 x2 x3 x6 : Int) (μ : amM) : At cr2 d 225 18 [s0] [71, x1, x2, x3, 0, 0, x6] μ = rd 84 82 μ x6 (fun v1 => At cr2 d 225 20 [v1, s0] [71, x1, x2, x3, 0, 0, x6] μ) := (At_eq cr2 d 225 18 _ _ _).trans rfl
set_option maxRecDepth 20000 in
theorem B225_19 (d : Nat) (s0 x1 x2 x3 x6 : Int) (μ : amM) : At cr2 d 225 19 [s0] [71, x1, x2, x3, 0, 0, x6] μ = At cr2 d 225 20 [0, s0] [71, x1, x2, x3, 0, 0, x6] μ := (At_eq cr2 d 225 19 _ _ _).trans rfl
set_option maxRecDepth 20000 in
theorem B225_20 (d : Nat) (s0 s1 x1 x2 x3 x6 : Int) (μ : amM) : At cr2 d 225 20 [s0, s1] [71, x1, x2, x3, 0, 0, x6] μ = At cr2 d 225 17 [] [71, x1, x2, x3, (w64 (s1 + s0)), 0, (w32 (x6 + 1))] μ := (At_eq cr2 d 225 20 _ _ _).trans rfl
set_option maxRecDepth 20000 in
theorem B225_21 (d : Nat) (x4 : Int) (μ : amM) : At cr2 d 225 21 [] [0, 0, 0, 0, x4, 0, 0] μ = some (x4, μ) := (At_eq cr2 d 225 21 _ _ _).trans rfl
set_option maxRecDepth 20000 in
theorem B226_0 (d : Nat) (μ : amM) : At cr2 d 226 0 [] [71, 0, 0, 0] μ = (if (μ 72 0) = 1 then bnd (RD cr2 d 153 [71] μ) (fun v2 μ1 => (if 9 < v2 then At cr2 d 226 1 [] [71, 0, 0, 0] μ1 else At cr2 d 226 2 [] [71, 0, 0, 0] μ1)) else At cr2 d 226 1 [] [71, 0, 0, 0] μ) := (At_eq cr2 d 226 0 _ _ _).trans rfl
set_option maxRecDepth 20000 in
theorem B226_1 (d : Nat) (μ : amM) : At cr2 d 226 1 [] [71, 0, 0, 0] μ = bnd (RD cr2 d 150 [71, 3] μ) (fun v1 μ1 => some (v1, μ1)) := (At_eq cr2 d 226 1 _ _ _).trans rfl
set_option maxRecDepth 20000 in
theorem B226_2 (d : Nat) (μ : amM) : At cr2 d 226 2 [] [71, 0, 0, 0] μ = bnd (RD cr2 d 219 [71] μ) (fun _ μ1 => At cr2 d 226 3 [] [71, 0, 0, 0] μ1) := (At_eq cr2 d 226 2 _ _ _).trans rfl
set_option maxRecDepth 20000 in
theorem B226_3 (d : Nat) (x1 x3 : Int) (μ : amM) : At cr2 d 226 3 [] [71, x1, 0, x3] μ = (if 81 < x3 then At cr2 d 226 6 [] [0, x1, 0, 0] μ else bnd (RD cr2 d 224 [71, 0, x3] μ) (fun v1 μ1 => (if v1 = 0 then At cr2 d 226 4 [x1] [71, 0, 0, x3] μ1 else bnd (RD cr2 d 225 [71, x3] μ1) (fun v2 μ2 => At cr2 d 226 5 [v2, x1] [71, 0, 0, x3] μ2)))) := (At_eq cr2 d 226 3 _ _ _).trans rfl
set_option maxRecDepth 20000 in
theorem B226_4 (d : Nat) (s0 x3 : Int) (μ : amM) : At cr2 d 226 4 [s0] [71, 0, 0, x3] μ = At cr2 d 226 5 [0, s0] [71, 0, 0, x3] μ := (At_eq cr2 d 226 4 _ _ _).trans rfl
set_option maxRecDepth 20000 in
theorem B226_5 (d : Nat) (s0 s1 x3 : Int) (μ : amM) : At cr2 d 226 5 [s0, s1] [71, 0, 0, x3] μ = At cr2 d 226 3 [] [71, (w64 (s1 + s0)), 0, (w32 (x3 + 1))] μ := (At_eq cr2 d 226 5 _ _ _).trans rfl
set_option maxRecDepth 20000 in
theorem B226_6 (d : Nat) (x1 : Int) (μ : amM) : At cr2 d 226 6 [] [0, x1, 0, 0] μ = some (x1, μ) := (At_eq cr2 d 226 6 _ _ _).trans rfl
set_option maxRecDepth 20000 in
theorem B227_0 (d : Nat) (μ : amM) : At cr2 d 227 0 [] [71] μ = wf 72 7 μ (w32 ((w32 ((μ 72 7) * 1103515245)) + 12345)) (fun μ1 => some ((bUshr (μ1 72 7) 8), μ1)) := (At_eq cr2 d 227 0 _ _ _).trans rfl
set_option maxRecDepth 20000 in
theorem B228_0 (d : Nat) (μ : amM) : At cr2 d 228 0 [] [71, 0] μ = At cr2 d 228 1 [] [71, 0] μ := (At_eq cr2 d 228 0 _ _ _).trans rfl
set_option maxRecDepth 20000 in
theorem B228_1 (d : Nat) (x1 : Int) (μ : amM) : At cr2 d 228 1 [] [71, x1] μ = (if x1 < 256 then rd 72 576 μ (w32 (148 + x1)) (fun v1 => wr 87 256 μ x1 v1 (fun μ1 => At cr2 d 228 1 [] [71, (w32 (x1 + 1))] μ1)) else At cr2 d 228 2 [] [0, 0] μ) := (At_eq cr2 d 228 1 _ _ _).trans rfl
set_option maxRecDepth 20000 in
theorem B228_2 (d : Nat) (μ : amM) : At cr2 d 228 2 [] [0, 0] μ = some (0, μ) := (At_eq cr2 d 228 2 _ _ _).trans rfl
set_option maxRecDepth 20000 in
theorem B229_0 (d : Nat) (μ : amM) : At cr2 d 229 0 [] [71, 0] μ = At cr2 d 229 1 [] [71, 0] μ := (At_eq cr2 d 229 0 _ _ _).trans rfl
set_option maxRecDepth 20000 in
theorem B229_1 (d : Nat) (x1 : Int) (μ : amM) : At cr2 d 229 1 [] [71, x1] μ = (if x1 < 256 then rd 87 256 μ x1 (fun v1 => wr 72 576 μ (w32 (148 + x1)) v1 (fun μ1 => At cr2 d 229 1 [] [71, (w32 (x1 + 1))] μ1)) else At cr2 d 229 2 [] [0, 0] μ) := (At_eq cr2 d 229 1 _ _ _).trans rfl
set_option maxRecDepth 20000 in
theorem B229_2 (d : Nat) (μ : amM) : At cr2 d 229 2 [] [0, 0] μ = some (0, μ) := (At_eq cr2 d 229 2 _ _ _).trans rfl
set_option maxRecDepth 20000 in
theorem B230_0 (d : Nat) (x1 x2 : Int) (μ : amM) : At cr2 d 230 0 [] [71, x1, x2, 0, 0] μ = At cr2 d 230 1 [] [71, x1, x2, 0, 0] μ := (At_eq cr2 d 230 0 _ _ _).trans rfl
set_option maxRecDepth 20000 in
theorem B230_1 (d : Nat) (x1 x2 x3 x4 : Int) (μ : amM) : At cr2 d 230 1 [] [71, x1, x2, x3, x4] μ = bnd (RD cr2 d 153 [71] μ) (fun v1 μ1 => (if x4 < v1 then bnd (RD cr2 d 177 [71, x4] μ1) (fun v2 μ2 => (if v2 = 0 then At cr2 d 230 2 [] [71, x1, x2, x3, x4] μ2 else bnd (RD cr2 d 157 [71, x4, x1] μ2) (fun v3 μ3 => (if v3 = x2 then bnd (RD cr2 d 158 [71, x4, x1, 3] μ3) (fun _ μ4 => At cr2 d 230 2 [] [71, x1, x2, (w32 (x3 + 1)), x4] μ4) else At cr2 d 230 2 [] [71, x1, x2, x3, x4] μ3)))) else At cr2 d 230 3 [] [0, 0, 0, x3, 0] μ1)) := (At_eq cr2 d 230 1 _ _ _).trans rfl
set_option maxRecDepth 20000 in
theorem B230_2 (d : Nat) (x1 x2 x3 x4 : Int) (μ : amM) : At cr2 d 230 2 [] [71, x1, x2, x3, x4] μ = At cr2 d 230 1 [] [71, x1, x2, x3, (w32 (x4 + 1))] μ := (At_eq cr2 d 230 2 _ _ _).trans rfl
set_option maxRecDepth 20000 in
theorem B230_3 (d : Nat) (x3 : Int) (μ : amM) : At cr2 d 230 3 [] [0, 0, 0, x3, 0] μ = some (x3, μ) := (At_eq cr2 d 230 3 _ _ _).trans rfl
set_option maxRecDepth 20000 in
theorem B231_0 (d : Nat) (x1 x2 : Int) (μ : amM) : At cr2 d 231 0 [] [71, x1, x2] μ = bnd (RD cr2 d 197 [x1, x2] μ) (fun v1 μ1 => (if v1 = 0 then At cr2 d 231 1 [] [71, 0, 0] μ1 else bnd (RD cr2 d 230 [71, x1, x2] μ1) (fun v2 μ2 => At cr2 d 231 2 [v2] [0, 0, 0] μ2))) := (At_eq cr2 d 231 0 _ _ _).trans rfl
set_option maxRecDepth 20000 in
theorem B231_1 (d : Nat) (μ : amM) : At cr2 d 231 1 [] [71, 0, 0] μ = bnd (RD cr2 d 150 [71, 1] μ) (fun v1 μ1 => At cr2 d 231 2 [v1] [0, 0, 0] μ1) := (At_eq cr2 d 231 1 _ _ _).trans rfl
set_option maxRecDepth 20000 in
theorem B231_2 (d : Nat) (s0 : Int) (μ : amM) : At cr2 d 231 2 [s0] [0, 0, 0] μ = some (s0, μ) := (At_eq cr2 d 231 2 _ _ _).trans rfl
set_option maxRecDepth 20000 in
theorem B232_0 (d : Nat) (x1 x2 : Int) (μ : amM) : At cr2 d 232 0 [] [71, x1, x2, 0] μ = bnd (RD cr2 d 228 [71] μ) (fun _ μ1 => bnd (RD cr2 d 230 [71, x1, x2] μ1) (fun v1 μ2 => bnd (RD cr2 d 175 [71] μ2) (fun _ μ3 => bnd (RD cr2 d 180 [71] μ3) (fun _ μ4 => bnd (RD cr2 d 229 [71] μ4) (fun _ μ5 => some ((μ5 71 14), μ5)))))) := (At_eq cr2 d 232 0 _ _ _).trans rfl
set_option maxRecDepth 20000 in
theorem B233_0 (d : Nat) (x1 x2 : Int) (μ : amM) : At cr2 d 233 0 [] [71, x1, x2] μ = bnd (RD cr2 d 197 [x1, x2] μ) (fun v1 μ1 => (if v1 = 0 then At cr2 d 233 1 [] [71, 0, 0] μ1 else bnd (RD cr2 d 232 [71, x1, x2] μ1) (fun v2 μ2 => At cr2 d 233 2 [v2] [0, 0, 0] μ2))) := (At_eq cr2 d 233 0 _ _ _).trans rfl
set_option maxRecDepth 20000 in
theorem B233_1 (d : Nat) (μ : amM) : At cr2 d 233 1 [] [71, 0, 0] μ = bnd (RD cr2 d 150 [71, 1] μ) (fun v1 μ1 => At cr2 d 233 2 [v1] [0, 0, 0] μ1) := (At_eq cr2 d 233 1 _ _ _).trans rfl
set_option maxRecDepth 20000 in
theorem B233_2 (d : Nat) (s0 : Int) (μ : amM) : At cr2 d 233 2 [s0] [0, 0, 0] μ = some (s0, μ) := (At_eq cr2 d 233 2 _ _ _).trans rfl
set_option maxRecDepth 20000 in
theorem B234_0 (d : Nat) (μ : amM) : At cr2 d 234 0 [] [71, 0, 0, 0, 0] μ = At cr2 d 234 1 [] [71, 0, (-1), 0, 0] μ := (At_eq cr2 d 234 0 _ _ _).trans rfl
set_option maxRecDepth 20000 in
theorem B234_1 (d : Nat) (x1 x2 x3 : Int) (μ : amM) : At cr2 d 234 1 [] [71, x1, x2, x3, 0] μ = (if x3 < 12 then bnd (RD cr2 d 232 [71, (w32 (x3.tdiv 3)), (x3.tmod 3)] μ) (fun v1 μ1 => (if x2 < v1 then At cr2 d 234 3 [x3] [71, 0, x2, x3, v1] μ1 else At cr2 d 234 2 [] [71, x1, x2, x3, v1] μ1)) else At cr2 d 234 6 [] [0, x1, 0, 0, 0] μ) := (At_eq cr2 d 234 1 _ _ _).trans rfl
set_option maxRecDepth 20000 in
theorem B234_2 (d : Nat) (x1 x2 x3 x4 : Int) (μ : amM) : At cr2 d 234 2 [] [71, x1, x2, x3, x4] μ = At cr2 d 234 3 [x1] [71, 0, x2, x3, x4] μ := (At_eq cr2 d 234 2 _ _ _).trans rfl
set_option maxRecDepth 20000 in
theorem B234_3 (d : Nat) (s0 x2 x3 x4 : Int) (μ : amM) : At cr2 d 234 3 [s0] [71, 0, x2, x3, x4] μ = (if x2 < x4 then At cr2 d 234 5 [x4] [71, s0, 0, x3, 0] μ else At cr2 d 234 4 [] [71, s0, x2, x3, 0] μ) := (At_eq cr2 d 234 3 _ _ _).trans rfl
set_option maxRecDepth 20000 in
theorem B234_4 (d : Nat) (x1 x2 x3 : Int) (μ : amM) : At cr2 d 234 4 [] [71, x1, x2, x3, 0] μ = At cr2 d 234 5 [x2] [71, x1, 0, x3, 0] μ := (At_eq cr2 d 234 4 _ _ _).trans rfl
set_option maxRecDepth 20000 in
theorem B234_5 (d : Nat) (s0 x1 x3 : Int) (μ : amM) : At cr2 d 234 5 [s0] [71, x1, 0, x3, 0] μ = At cr2 d 234 1 [] [71, x1, s0, (w32 (x3 + 1)), 0] μ := (At_eq cr2 d 234 5 _ _ _).trans rfl
set_option maxRecDepth 20000 in
theorem B234_6 (d : Nat) (x1 : Int) (μ : amM) : At cr2 d 234 6 [] [0, x1, 0, 0, 0] μ = some (x1, μ) := (At_eq cr2 d 234 6 _ _ _).trans rfl
set_option maxRecDepth 20000 in
theorem B235_0 (d : Nat) (μ : amM) : At cr2 d 235 0 [] [71, 0, 0, 0, 0] μ = bnd (RD cr2 d 175 [71] μ) (fun _ μ1 => At cr2 d 235 1 [] [71, 0, 0, 0, 0] μ1) := (At_eq cr2 d 235 0 _ _ _).trans rfl
set_option maxRecDepth 20000 in
theorem B235_1 (d : Nat) (x1 x2 : Int) (μ : amM) : At cr2 d 235 1 [] [71, x1, x2, 0, 0] μ = bnd (RD cr2 d 153 [71] μ) (fun v1 μ1 => (if x2 < v1 then bnd (RD cr2 d 155 [71, x2] μ1) (fun v2 μ2 => (if v2 = 0 then At cr2 d 235 2 [] [71, x1, x2, 0, 0] μ2 else wr 88 64 μ2 x1 x2 (fun μ3 => At cr2 d 235 2 [] [71, (w32 (x1 + 1)), x2, 0, 0] μ3))) else At cr2 d 235 3 [] [71, x1, 0, 0, 0] μ1)) := (At_eq cr2 d 235 1 _ _ _).trans rfl
set_option maxRecDepth 20000 in
theorem B235_2 (d : Nat) (x1 x2 : Int) (μ : amM) : At cr2 d 235 2 [] [71, x1, x2, 0, 0] μ = At cr2 d 235 1 [] [71, x1, (w32 (x2 + 1)), 0, 0] μ := (At_eq cr2 d 235 2 _ _ _).trans rfl
set_option maxRecDepth 20000 in
theorem B235_3 (d : Nat) (x1 : Int) (μ : amM) : At cr2 d 235 3 [] [71, x1, 0, 0, 0] μ = (if 0 < x1 then wf 89 0 μ (-1) (fun μ1 => At cr2 d 235 4 [] [71, x1, 0, 0, 0] μ1) else At cr2 d 235 4 [] [71, x1, 0, 0, 0] μ) := (At_eq cr2 d 235 3 _ _ _).trans rfl
set_option maxRecDepth 20000 in
theorem B235_4 (d : Nat) (x1 x2 x3 : Int) (μ : amM) : At cr2 d 235 4 [] [71, x1, x2, x3, 0] μ = (if x3 < 0 then At cr2 d 235 7 [] [71, x1, x2, x3, 0] μ else (if x3 < x1 then (if 20000 < x2 then At cr2 d 235 7 [] [71, x1, x2, x3, 0] μ else rd 88 64 μ x3 (fun v1 => bnd (RD cr2 d 183 [71, v1] μ) (fun _ μ1 => rd 89 64 μ1 x3 (fun v2 => wr 89 64 μ1 x3 (w32 (v2 + 1)) (fun μ2 => rd 89 64 μ2 x3 (fun v3 => (if v3 = 81 then At cr2 d 235 4 [] [71, x1, x2, (w32 (x3 + (-1))), 0] μ2 else At cr2 d 235 5 [] [71, x1, x2, x3, v1] μ2))))))) else At cr2 d 235 7 [] [71, x1, x2, x3, 0] μ)) := (At_eq cr2 d 235 4 _ _ _).trans rfl
set_option maxRecDepth 20000 in
theorem B235_5 (d : Nat) (x1 x2 x3 x4 : Int) (μ : amM) : At cr2 d 235 5 [] [71, x1, x2, x3, x4] μ = (if 20000 < (w32 (x2 + 1)) then At cr2 d 235 6 [] [71, x1, (w32 (x2 + 1)), x3, 0] μ else rd 89 64 μ x3 (fun v1 => bnd (RD cr2 d 201 [71, x4, v1] μ) (fun v2 μ1 => (if v2 = 0 then At cr2 d 235 6 [] [71, x1, (w32 (x2 + 1)), x3, 0] μ1 else rd 89 64 μ1 x3 (fun v3 => bnd (RD cr2 d 182 [71, x4, 0, v3] μ1) (fun _ μ2 => (if (w32 (x3 + 1)) < x1 then wr 89 64 μ2 (w32 (x3 + 1)) (-1) (fun μ3 => At cr2 d 235 6 [] [71, x1, (w32 (x2 + 1)), (w32 (x3 + 1)), 0] μ3) else At cr2 d 235 6 [] [71, x1, (w32 (x2 + 1)), (w32 (x3 + 1)), 0] μ2))))))) := (At_eq cr2 d 235 5 _ _ _).trans rfl
set_option maxRecDepth 20000 in
theorem B235_6 (d : Nat) (x1 x2 x3 : Int) (μ : amM) : At cr2 d 235 6 [] [71, x1, x2, x3, 0] μ = At cr2 d 235 4 [] [71, x1, x2, x3, 0] μ := (At_eq cr2 d 235 6 _ _ _).trans rfl
set_option maxRecDepth 20000 in
theorem B235_7 (d : Nat) (x1 x2 x3 : Int) (μ : amM) : At cr2 d 235 7 [] [71, x1, x2, x3, 0] μ = (if x3 = x1 then some (x1, μ) else At cr2 d 235 8 [] [71, x1, x2, 0, 0] μ) := (At_eq cr2 d 235 7 _ _ _).trans rfl
set_option maxRecDepth 20000 in
theorem B235_8 (d : Nat) (x1 x2 : Int) (μ : amM) : At cr2 d 235 8 [] [71, x1, x2, 0, 0] μ = At cr2 d 235 9 [] [71, x1, x2, 0, 0] μ := (At_eq cr2 d 235 8 _ _ _).trans rfl
set_option maxRecDepth 20000 in
theorem B235_9 (d : Nat) (x1 x2 x4 : Int) (μ : amM) : At cr2 d 235 9 [] [71, x1, x2, 0, x4] μ = (if x4 < x1 then rd 88 64 μ x4 (fun v1 => bnd (RD cr2 d 183 [71, v1] μ) (fun _ μ1 => At cr2 d 235 9 [] [71, x1, x2, 0, (w32 (x4 + 1))] μ1)) else At cr2 d 235 10 [] [71, 0, x2, 0, 0] μ) := (At_eq cr2 d 235 9 _ _ _).trans rfl
set_option maxRecDepth 20000 in
theorem B235_10 (d : Nat) (x2 : Int) (μ : amM) : At cr2 d 235 10 [] [71, 0, x2, 0, 0] μ = (if 20000 < x2 then At cr2 d 235 12 [4, 71] [0, 0, 0, 0, 0] μ else At cr2 d 235 11 [71] [0, 0, 0, 0, 0] μ) := (At_eq cr2 d 235 10 _ _ _).trans rfl
set_option maxRecDepth 20000 in
theorem B235_11 (d : Nat) (μ : amM) : At cr2 d 235 11 [71] [0, 0, 0, 0, 0] μ = At cr2 d 235 12 [2, 71] [0, 0, 0, 0, 0] μ := (At_eq cr2 d 235 11 _ _ _).trans rfl
set_option maxRecDepth 20000 in
theorem B235_12 (d : Nat) (s0 : Int) (μ : amM) : At cr2 d 235 12 [s0, 71] [0, 0, 0, 0, 0] μ = bnd (RD cr2 d 150 [71, s0] μ) (fun v1 μ1 => some (v1, μ1)) := (At_eq cr2 d 235 12 _ _ _).trans rfl
set_option maxRecDepth 20000 in
theorem B236_0 (d : Nat) (μ : amM) : At cr2 d 236 0 [] [71, 0, 0] μ = At cr2 d 236 1 [] [71, 0, 0] μ := (At_eq cr2 d 236 0 _ _ _).trans rfl
set_option maxRecDepth 20000 in
theorem B236_1 (d : Nat) (x1 x2 : Int) (μ : amM) : At cr2 d 236 1 [] [71, x1, x2] μ = bnd (RD cr2 d 153 [71] μ) (fun v1 μ1 => (if x2 < v1 then bnd (RD cr2 d 155 [71, x2] μ1) (fun v2 μ2 => (if v2 = 0 then At cr2 d 236 2 [x1] [71, 0, x2] μ2 else At cr2 d 236 3 [0, x1] [71, 0, x2] μ2)) else At cr2 d 236 4 [] [0, x1, 0] μ1)) := (At_eq cr2 d 236 1 _ _ _).trans rfl
set_option maxRecDepth 20000 in
theorem B236_2 (d : Nat) (s0 x2 : Int) (μ : amM) : At cr2 d 236 2 [s0] [71, 0, x2] μ = bnd (RD cr2 d 186 [71, x2] μ) (fun v1 μ1 => At cr2 d 236 3 [v1, s0] [71, 0, x2] μ1) := (At_eq cr2 d 236 2 _ _ _).trans rfl
set_option maxRecDepth 20000 in
theorem B236_3 (d : Nat) (s0 s1 x2 : Int) (μ : amM) : At cr2 d 236 3 [s0, s1] [71, 0, x2] μ = At cr2 d 236 1 [] [71, (w32 (s1 + s0)), (w32 (x2 + 1))] μ := (At_eq cr2 d 236 3 _ _ _).trans rfl
set_option maxRecDepth 20000 in
theorem B236_4 (d : Nat) (x1 : Int) (μ : amM) : At cr2 d 236 4 [] [0, x1, 0] μ = some (x1, μ) := (At_eq cr2 d 236 4 _ _ _).trans rfl
set_option maxRecDepth 20000 in
theorem B237_0 (d : Nat) (x1 : Int) (μ : amM) : At cr2 d 237 0 [] [71, x1, 0, 0, 0, 0, 0, 0, 0, 0, 0] μ = bnd (RD cr2 d 151 [x1, 0, 1] μ) (fun v1 μ1 => (if v1 = 0 then bnd (RD cr2 d 150 [71, 1] μ1) (fun v2 μ2 => some (v2, μ2)) else At cr2 d 237 1 [] [71, x1, 0, 0, 0, 0, 0, 0, 0, 0, 0] μ1)) := (At_eq cr2 d 237 0 _ _ _).trans rfl
set_option maxRecDepth 20000 in
theorem B237_1 (d : Nat) (x1 : Int) (μ : amM) : At cr2 d 237 1 [] [71, x1, 0, 0, 0, 0, 0, 0, 0, 0, 0] μ = bnd (RD cr2 d 175 [71] μ) (fun _ μ1 => At cr2 d 237 2 [] [71, x1, (-1), 0, 0, 0, 0, 0, 0, 0, 0] μ1) := (At_eq cr2 d 237 1 _ _ _).trans rfl
set_option maxRecDepth 20000 in
theorem B237_2 (d : Nat) (x1 x2 x3 x4 : Int) (μ : amM) : At cr2 d 237 2 [] [71, x1, x2, x3, x4, 0, 0, 0, 0, 0, 0] μ = bnd (RD cr2 d 153 [71] μ) (fun v1 μ1 => (if x4 < (w32 (12 * v1)) then bnd (RD cr2 d 213 [71, (w32 (x4.tdiv 12)), (w32 ((x4.tmod 12).tdiv 3)), (x4.tmod 3)] μ1) (fun v2 μ2 => (if v2 = 0 then At cr2 d 237 6 [] [71, x1, x2, x3, x4, 0, 0, 0, 0, 0, 0] μ2 else At cr2 d 237 3 [] [71, x1, x2, x3, x4, (w32 (x4.tdiv 12)), (w32 ((x4.tmod 12).tdiv 3)), (x4.tmod 3), 0, 0, 0] μ2)) else At cr2 d 237 7 [] [71, x1, x2, x3, 0, 0, 0, 0, 0, 0, 0] μ1)) := (At_eq cr2 d 237 2 _ _ _).trans rfl
set_option maxRecDepth 20000 in
theorem B237_3 (d : Nat) (x1 x2 x3 x4 x5 x6 x7 : Int) (μ : amM) : At cr2 d 237 3 [] [71, x1, x2, x3, x4, x5, x6, x7, 0, 0, 0] μ = bnd (RD cr2 d 157 [71, x5, x6] μ) (fun v1 μ1 => bnd (RD cr2 d 186 [71, x5] μ1) (fun v2 μ2 => bnd (RD cr2 d 158 [71, x5, x6, x7] μ2) (fun _ μ3 => bnd (RD cr2 d 186 [71, x5] μ3) (fun v3 μ4 => bnd (RD cr2 d 185 [71, x5, x6] μ4) (fun v4 μ5 => (if x2 < 0 then At cr2 d 237 4 [] [71, x1, x2, x3, x4, x5, x6, 0, v1, 0, (w32 ((w32 (v3 - v2)) - v4))] μ5 else (if x3 < (w32 ((w32 (v3 - v2)) - v4)) then At cr2 d 237 4 [] [71, x1, x2, x3, x4, x5, x6, 0, v1, 0, (w32 ((w32 (v3 - v2)) - v4))] μ5 else At cr2 d 237 5 [] [71, x1, x2, x3, x4, x5, x6, 0, v1, 0, 0] μ5))))))) := (At_eq cr2 d 237 3 _ _ _).trans rfl
set_option maxRecDepth 20000 in
theorem B237_4 (d : Nat) (x1 x2 x3 x4 x5 x6 x8 x10 : Int) (μ : amM) : At cr2 d 237 4 [] [71, x1, x2, x3, x4, x5, x6, 0, x8, 0, x10] μ = bnd (RD cr2 d 181 [71] μ) (fun v1 μ1 => (if v1 = 0 then At cr2 d 237 5 [] [71, x1, x2, x3, x4, x5, x6, 0, x8, 0, 0] μ1 else At cr2 d 237 5 [] [71, x1, x4, x10, x4, x5, x6, 0, x8, 0, 0] μ1)) := (At_eq cr2 d 237 4 _ _ _).trans rfl
set_option maxRecDepth 20000 in
theorem B237_5 (d : Nat) (x1 x2 x3 x4 x5 x6 x8 : Int) (μ : amM) : At cr2 d 237 5 [] [71, x1, x2, x3, x4, x5, x6, 0, x8, 0, 0] μ = bnd (RD cr2 d 158 [71, x5, x6, x8] μ) (fun _ μ1 => At cr2 d 237 6 [] [71, x1, x2, x3, x4, 0, 0, 0, 0, 0, 0] μ1) := (At_eq cr2 d 237 5 _ _ _).trans rfl
set_option maxRecDepth 20000 in
theorem B237_6 (d : Nat) (x1 x2 x3 x4 : Int) (μ : amM) : At cr2 d 237 6 [] [71, x1, x2, x3, x4, 0, 0, 0, 0, 0, 0] μ = At cr2 d 237 2 [] [71, x1, x2, x3, (w32 (x4 + 1)), 0, 0, 0, 0, 0, 0] μ := (At_eq cr2 d 237 6 _ _ _).trans rfl
set_option maxRecDepth 20000 in
theorem B237_7 (d : Nat) (x1 x2 x3 : Int) (μ : amM) : At cr2 d 237 7 [] [71, x1, x2, x3, 0, 0, 0, 0, 0, 0, 0] μ = (if x2 < 0 then bnd (RD cr2 d 150 [71, 2] μ) (fun v1 μ1 => At cr2 d 237 10 [v1] [0, 0, 0, 0, 0, 0, 0, 0, 0, 0, 0] μ1) else At cr2 d 237 8 [] [0, x1, x2, x3, 0, 0, 0, 0, 0, 0, 0] μ) := (At_eq cr2 d 237 7 _ _ _).trans rfl
set_option maxRecDepth 20000 in
theorem B237_8 (d : Nat) (x1 x2 x3 : Int) (μ : amM) : At cr2 d 237 8 [] [0, x1, x2, x3, 0, 0, 0, 0, 0, 0, 0] μ = (if x1 = 0 then At cr2 d 237 10 [x2] [0, 0, 0, 0, 0, 0, 0, 0, 0, 0, 0] μ else At cr2 d 237 9 [] [0, 0, 0, x3, 0, 0, 0, 0, 0, 0, 0] μ) := (At_eq cr2 d 237 8 _ _ _).trans rfl
set_option maxRecDepth 20000 in
theorem B237_9 (d : Nat) (x3 : Int) (μ : amM) : At cr2 d 237 9 [] [0, 0, 0, x3, 0, 0, 0, 0, 0, 0, 0] μ = At cr2 d 237 10 [x3] [0, 0, 0, 0, 0, 0, 0, 0, 0, 0, 0] μ := (At_eq cr2 d 237 9 _ _ _).trans rfl
set_option maxRecDepth 20000 in
theorem B237_10 (d : Nat) (s0 : Int) (μ : amM) : At cr2 d 237 10 [s0] [0, 0, 0, 0, 0, 0, 0, 0, 0, 0, 0] μ = some (s0, μ) := (At_eq cr2 d 237 10 _ _ _).trans rfl
set_option maxRecDepth 20000 in
theorem B238_0 (d : Nat) (μ : amM) : At cr2 d 238 0 [] [71, 0, 0, 0, 0] μ = bnd (RD cr2 d 227 [71] μ) (fun v1 μ1 => bnd (RD cr2 d 153 [71] μ1) (fun v2 μ2 => if v2 = 0 then none else bnd (RD cr2 d 227 [71] μ2) (fun v3 μ3 => bnd (RD cr2 d 227 [71] μ3) (fun v4 μ4 => wf 72 5 μ4 (w32 ((μ4 72 5) + 1)) (fun μ5 => bnd (RD cr2 d 213 [71, (v1.tmod v2), (v3.tmod 4), (v4.tmod 3)] μ5) (fun v6 μ6 => (if v6 = 0 then some (0, μ6) else At cr2 d 238 1 [] [71, (v1.tmod v2), (v3.tmod 4), (v4.tmod 3), 0] μ6))))))) := (At_eq cr2 d 238 0 _ _ _).trans rfl
set_option maxRecDepth 20000 in
theorem B238_1 (d : Nat) (x1 x2 x3 : Int) (μ : amM) : At cr2 d 238 1 [] [71, x1, x2, x3, 0] μ = bnd (RD cr2 d 157 [71, x1, x2] μ) (fun v1 μ1 => bnd (RD cr2 d 158 [71, x1, x2, x3] μ1) (fun _ μ2 => bnd (RD cr2 d 181 [71] μ2) (fun v2 μ3 => (if v2 = 0 then At cr2 d 238 2 [] [71, x1, x2, 0, v1] μ3 else bnd (RD cr2 d 185 [71, x1, x2] μ3) (fun v3 μ4 => bnd (RD cr2 d 198 [71, v3] μ4) (fun _ μ5 => some (1, μ5))))))) := (At_eq cr2 d 238 1 _ _ _).trans rfl
set_option maxRecDepth 20000 in
theorem B238_2 (d : Nat) (x1 x2 x4 : Int) (μ : amM) : At cr2 d 238 2 [] [71, x1, x2, 0, x4] μ = bnd (RD cr2 d 158 [71, x1, x2, x4] μ) (fun _ μ1 => some (0, μ1)) := (At_eq cr2 d 238 2 _ _ _).trans rfl
set_option maxRecDepth 20000 in
theorem B239_0 (d : Nat) (x1 : Int) (μ : amM) : At cr2 d 239 0 [] [71, x1, 0, 0] μ = bnd (RD cr2 d 151 [x1, 1, 200] μ) (fun v1 μ1 => (if v1 = 0 then bnd (RD cr2 d 150 [71, 1] μ1) (fun v2 μ2 => some (v2, μ2)) else At cr2 d 239 1 [] [71, x1, 0, 0] μ1)) := (At_eq cr2 d 239 0 _ _ _).trans rfl
set_option maxRecDepth 20000 in
theorem B239_1 (d : Nat) (x1 : Int) (μ : amM) : At cr2 d 239 1 [] [71, x1, 0, 0] μ = (if 9999 < (w32 ((μ 72 5) + x1)) then bnd (RD cr2 d 150 [71, 3] μ) (fun v2 μ1 => some (v2, μ1)) else At cr2 d 239 2 [] [71, x1, 0, 0] μ) := (At_eq cr2 d 239 1 _ _ _).trans rfl
set_option maxRecDepth 20000 in
theorem B239_2 (d : Nat) (x1 : Int) (μ : amM) : At cr2 d 239 2 [] [71, x1, 0, 0] μ = bnd (RD cr2 d 175 [71] μ) (fun _ μ1 => At cr2 d 239 3 [] [71, x1, 0, 0] μ1) := (At_eq cr2 d 239 2 _ _ _).trans rfl
set_option maxRecDepth 20000 in
theorem B239_3 (d : Nat) (x1 x2 x3 : Int) (μ : amM) : At cr2 d 239 3 [] [71, x1, x2, x3] μ = (if x3 < x1 then bnd (RD cr2 d 238 [71] μ) (fun v1 μ1 => (if v1 = 0 then At cr2 d 239 4 [x2] [71, x1, 0, x3] μ1 else At cr2 d 239 5 [1, x2] [71, x1, 0, x3] μ1)) else At cr2 d 239 6 [] [0, 0, x2, 0] μ) := (At_eq cr2 d 239 3 _ _ _).trans rfl
set_option maxRecDepth 20000 in
theorem B239_4 (d : Nat) (s0 x1 x3 : Int) (μ : amM) : At cr2 d 239 4 [s0] [71, x1, 0, x3] μ = At cr2 d 239 5 [0, s0] [71, x1, 0, x3] μ := (At_eq cr2 d 239 4 _ _ _).trans rfl
set_option maxRecDepth 20000 in
theorem B239_5 (d : Nat) (s0 s1 x1 x3 : Int) (μ : amM) : At cr2 d 239 5 [s0, s1] [71, x1, 0, x3] μ = At cr2 d 239 3 [] [71, x1, (w32 (s1 + s0)), (w32 (x3 + 1))] μ := (At_eq cr2 d 239 5 _ _ _).trans rfl
set_option maxRecDepth 20000 in
theorem B239_6 (d : Nat) (x2 : Int) (μ : amM) : At cr2 d 239 6 [] [0, 0, x2, 0] μ = some (x2, μ) := (At_eq cr2 d 239 6 _ _ _).trans rfl
set_option maxRecDepth 20000 in
theorem B240_0 (d : Nat) (x1 : Int) (μ : amM) : At cr2 d 240 0 [] [71, x1, 0] μ = wf 72 7 μ x1 (fun μ1 => some ((μ 72 7), μ1)) := (At_eq cr2 d 240 0 _ _ _).trans rfl
set_option maxRecDepth 20000 in
theorem B241_0 (d : Nat) (x1 : Int) (μ : amM) : At cr2 d 241 0 [] [71, x1] μ = (if (μ 71 33) < 40 then wr 90 40 μ (μ 71 33) x1 (fun μ1 => wf 71 33 μ1 (w32 ((μ1 71 33) + 1)) (fun μ2 => At cr2 d 241 1 [] [0, 0] μ2)) else At cr2 d 241 1 [] [0, 0] μ) := (At_eq cr2 d 241 0 _ _ _).trans rfl
set_option maxRecDepth 20000 in
theorem B241_1 (d : Nat) (μ : amM) : At cr2 d 241 1 [] [0, 0] μ = some (0, μ) := (At_eq cr2 d 241 1 _ _ _).trans rfl
set_option maxRecDepth 20000 in
theorem B242_0 (d : Nat) (μ : amM) : At cr2 d 242 0 [] [71] μ = bnd (RD cr2 d 156 [71, (μ 71 34)] μ) (fun v1 μ1 => some (v1, μ1)) := (At_eq cr2 d 242 0 _ _ _).trans rfl
set_option maxRecDepth 20000 in
theorem B243_0 (d : Nat) (x1 x2 : Int) (μ : amM) : At cr2 d 243 0 [] [71, x1, x2] μ = (if x1 = 0 then At cr2 d 243 1 [] [71, 0, x2] μ else if x1 = 2 then At cr2 d 243 2 [] [71, 0, x2] μ else At cr2 d 243 3 [] [71, x1, x2] μ) := (At_eq cr2 d 243 0 _ _ _).trans rfl
set_option maxRecDepth 20000 in
theorem B243_1 (d : Nat) (x2 : Int) (μ : amM) : At cr2 d 243 1 [] [71, 0, x2] μ = bnd (RD cr2 d 241 [71, 10] μ) (fun _ μ1 => some ((w32 (x2 + (μ1 71 34))), μ1)) := (At_eq cr2 d 243 1 _ _ _).trans rfl
set_option maxRecDepth 20000 in
theorem B243_2 (d : Nat) (x2 : Int) (μ : amM) : At cr2 d 243 2 [] [71, 0, x2] μ = bnd (RD cr2 d 241 [71, 30] μ) (fun _ μ1 => bnd (RD cr2 d 195 [2] μ1) (fun v1 μ2 => bnd (RD cr2 d 243 [71, v1, x2] μ2) (fun v2 μ3 => some ((w32 (v2 * 3)), μ3)))) := (At_eq cr2 d 243 2 _ _ _).trans rfl
set_option maxRecDepth 20000 in
theorem B243_3 (d : Nat) (x1 x2 : Int) (μ : amM) : At cr2 d 243 3 [] [71, x1, x2] μ = bnd (RD cr2 d 195 [x1] μ) (fun v1 μ1 => bnd (RD cr2 d 243 [71, v1, x2] μ1) (fun v2 μ2 => some (v2, μ2))) := (At_eq cr2 d 243 3 _ _ _).trans rfl
set_option maxRecDepth 20000 in
theorem B244_0 (d : Nat) (x1 x2 : Int) (μ : amM) : At cr2 d 244 0 [] [71, x1, x2, 0] μ = (if x1 = 0 then At cr2 d 244 1 [] [71, 0, x2, 0] μ else if x1 = 1 then At cr2 d 244 2 [] [71, 0, x2, 0] μ else if x1 = 2 then At cr2 d 244 4 [] [71, x1, x2, 0] μ else if x1 = 3 then At cr2 d 244 4 [] [71, x1, x2, 0] μ else if x1 = 4 then At cr2 d 244 3 [] [71, 0, x2, 0] μ else At cr2 d 244 4 [] [71, x1, x2, 0] μ) := (At_eq cr2 d 244 0 _ _ _).trans rfl
set_option maxRecDepth 20000 in
theorem B244_1 (d : Nat) (x2 : Int) (μ : amM) : At cr2 d 244 1 [] [71, 0, x2, 0] μ = bnd (RD cr2 d 241 [71, 11] μ) (fun _ μ1 => bnd (RD cr2 d 242 [71] μ1) (fun v1 μ2 => bnd (RD cr2 d 243 [71, v1, x2] μ2) (fun v2 μ3 => some ((w32 (v2 * 2)), μ3)))) := (At_eq cr2 d 244 1 _ _ _).trans rfl
set_option maxRecDepth 20000 in
theorem B244_2 (d : Nat) (x2 : Int) (μ : amM) : At cr2 d 244 2 [] [71, 0, x2, 0] μ = bnd (RD cr2 d 241 [71, 20] μ) (fun _ μ1 => bnd (RD cr2 d 195 [1] μ1) (fun v1 μ2 => bnd (RD cr2 d 244 [71, v1, x2] μ2) (fun v2 μ3 => bnd (RD cr2 d 242 [71] μ3) (fun v3 μ4 => bnd (RD cr2 d 245 [71, v3, 1] μ4) (fun v4 μ5 => some ((w32 (v2 - v4)), μ5)))))) := (At_eq cr2 d 244 2 _ _ _).trans rfl
set_option maxRecDepth 20000 in
theorem B244_3 (d : Nat) (x2 : Int) (μ : amM) : At cr2 d 244 3 [] [71, 0, x2, 0] μ = bnd (RD cr2 d 241 [71, 50] μ) (fun _ μ1 => bnd (RD cr2 d 195 [4] μ1) (fun v1 μ2 => bnd (RD cr2 d 244 [71, v1, (w32 (x2 + 1))] μ2) (fun v2 μ3 => some (v2, μ3)))) := (At_eq cr2 d 244 3 _ _ _).trans rfl
set_option maxRecDepth 20000 in
theorem B244_4 (d : Nat) (x1 x2 : Int) (μ : amM) : At cr2 d 244 4 [] [71, x1, x2, 0] μ = bnd (RD cr2 d 195 [x1] μ) (fun v1 μ1 => bnd (RD cr2 d 244 [71, v1, x2] μ1) (fun v2 μ2 => some (v2, μ2))) := (At_eq cr2 d 244 4 _ _ _).trans rfl
set_option maxRecDepth 20000 in
theorem B245_0 (d : Nat) (x1 x2 : Int) (μ : amM) : At cr2 d 245 0 [] [71, x1, x2] μ = (if x1 = 0 then At cr2 d 245 1 [] [71, 0, x2] μ else if x1 = 3 then At cr2 d 245 2 [] [71, 0, x2] μ else if x1 = 6 then At cr2 d 245 3 [] [71, 0, x2] μ else At cr2 d 245 4 [] [71, x1, x2] μ) := (At_eq cr2 d 245 0 _ _ _).trans rfl
set_option maxRecDepth 20000 in
theorem B245_1 (d : Nat) (x2 : Int) (μ : amM) : At cr2 d 245 1 [] [71, 0, x2] μ = bnd (RD cr2 d 241 [71, 12] μ) (fun _ μ1 => rd 72 576 μ1 (w32 (84 + (μ1 71 34))) (fun v1 => some ((w32 (x2 - v1)), μ1))) := (At_eq cr2 d 245 1 _ _ _).trans rfl
set_option maxRecDepth 20000 in
theorem B245_2 (d : Nat) (x2 : Int) (μ : amM) : At cr2 d 245 2 [] [71, 0, x2] μ = bnd (RD cr2 d 241 [71, 40] μ) (fun _ μ1 => bnd (RD cr2 d 195 [3] μ1) (fun v1 μ2 => bnd (RD cr2 d 245 [71, v1, x2] μ2) (fun v2 μ3 => some ((w32 (-v2)), μ3)))) := (At_eq cr2 d 245 2 _ _ _).trans rfl
set_option maxRecDepth 20000 in
theorem B245_3 (d : Nat) (x2 : Int) (μ : amM) : At cr2 d 245 3 [] [71, 0, x2] μ = bnd (RD cr2 d 241 [71, 70] μ) (fun _ μ1 => bnd (RD cr2 d 195 [6] μ1) (fun v1 μ2 => bnd (RD cr2 d 245 [71, v1, x2] μ2) (fun v2 μ3 => some ((bXor v2 (μ3 71 34)), μ3)))) := (At_eq cr2 d 245 3 _ _ _).trans rfl
set_option maxRecDepth 20000 in
theorem B245_4 (d : Nat) (x1 x2 : Int) (μ : amM) : At cr2 d 245 4 [] [71, x1, x2] μ = bnd (RD cr2 d 195 [x1] μ) (fun v1 μ1 => bnd (RD cr2 d 245 [71, v1, x2] μ1) (fun v2 μ2 => some (v2, μ2))) := (At_eq cr2 d 245 4 _ _ _).trans rfl
set_option maxRecDepth 20000 in
theorem B246_0 (d : Nat) (x1 x2 : Int) (μ : amM) : At cr2 d 246 0 [] [71, x1, x2, 0] μ = (if x1 = 0 then At cr2 d 246 1 [] [71, 0, x2, 0] μ else if x1 = 5 then At cr2 d 246 2 [] [71, 0, x2, 0] μ else if x1 = 6 then At cr2 d 246 3 [] [71, 0, x2, 0] μ else At cr2 d 246 4 [] [71, x1, x2, 0] μ) := (At_eq cr2 d 246 0 _ _ _).trans rfl
set_option maxRecDepth 20000 in
theorem B246_1 (d : Nat) (x2 : Int) (μ : amM) : At cr2 d 246 1 [] [71, 0, x2, 0] μ = bnd (RD cr2 d 241 [71, 13] μ) (fun _ μ1 => bnd (RD cr2 d 242 [71] μ1) (fun v1 μ2 => bnd (RD cr2 d 244 [71, v1, x2] μ2) (fun v2 μ3 => bnd (RD cr2 d 242 [71] μ3) (fun v3 μ4 => bnd (RD cr2 d 245 [71, v3, x2] μ4) (fun v4 μ5 => some ((bXor v2 v4), μ5)))))) := (At_eq cr2 d 246 1 _ _ _).trans rfl
set_option maxRecDepth 20000 in
theorem B246_2 (d : Nat) (x2 : Int) (μ : amM) : At cr2 d 246 2 [] [71, 0, x2, 0] μ = bnd (RD cr2 d 241 [71, 60] μ) (fun _ μ1 => bnd (RD cr2 d 195 [5] μ1) (fun v1 μ2 => bnd (RD cr2 d 246 [71, v1, x2] μ2) (fun v2 μ3 => bnd (RD cr2 d 242 [71] μ3) (fun v3 μ4 => bnd (RD cr2 d 243 [71, v3, 2] μ4) (fun v4 μ5 => some ((w32 (v2 - v4)), μ5)))))) := (At_eq cr2 d 246 2 _ _ _).trans rfl
set_option maxRecDepth 20000 in
theorem B246_3 (d : Nat) (x2 : Int) (μ : amM) : At cr2 d 246 3 [] [71, 0, x2, 0] μ = bnd (RD cr2 d 241 [71, 71] μ) (fun _ μ1 => bnd (RD cr2 d 242 [71] μ1) (fun v1 μ2 => bnd (RD cr2 d 244 [71, v1, x2] μ2) (fun v2 μ3 => bnd (RD cr2 d 195 [6] μ3) (fun v3 μ4 => bnd (RD cr2 d 246 [71, v3, x2] μ4) (fun v4 μ5 => some ((w32 (v2 - v4)), μ5)))))) := (At_eq cr2 d 246 3 _ _ _).trans rfl
set_option maxRecDepth 20000 in
theorem B246_4 (d : Nat) (x1 x2 : Int) (μ : amM) : At cr2 d 246 4 [] [71, x1, x2, 0] μ = bnd (RD cr2 d 195 [x1] μ) (fun v1 μ1 => bnd (RD cr2 d 246 [71, v1, x2] μ1) (fun v2 μ2 => some (v2, μ2))) := (At_eq cr2 d 246 4 _ _ _).trans rfl
set_option maxRecDepth 20000 in
theorem B247_0 (d : Nat) (x1 x2 x3 : Int) (μ : amM) : At cr2 d 247 0 [] [71, x1, x2, x3, 0] μ = bnd (RD cr2 d 154 [71, x1] μ) (fun v1 μ1 => (if v1 = 0 then At cr2 d 247 1 [] [71, 0, 0, 0, 0] μ1 else bnd (RD cr2 d 151 [x2, 0, 3] μ1) (fun v2 μ2 => (if v2 = 0 then At cr2 d 247 1 [] [71, 0, 0, 0, 0] μ2 else At cr2 d 247 2 [] [71, x1, x2, x3, 0] μ2)))) := (At_eq cr2 d 247 0 _ _ _).trans rfl
set_option maxRecDepth 20000 in
theorem B247_1 (d : Nat) (μ : amM) : At cr2 d 247 1 [] [71, 0, 0, 0, 0] μ = bnd (RD cr2 d 150 [71, 1] μ) (fun v1 μ1 => some (v1, μ1)) := (At_eq cr2 d 247 1 _ _ _).trans rfl
set_option maxRecDepth 20000 in
theorem B247_2 (d : Nat) (x1 x2 x3 : Int) (μ : amM) : At cr2 d 247 2 [] [71, x1, x2, x3, 0] μ = bnd (RD cr2 d 155 [71, x1] μ) (fun v1 μ1 => (if v1 = 0 then At cr2 d 247 3 [] [71, x1, x2, x3, 0] μ1 else bnd (RD cr2 d 150 [71, 2] μ1) (fun v2 μ2 => some (v2, μ2)))) := (At_eq cr2 d 247 2 _ _ _).trans rfl
set_option maxRecDepth 20000 in
theorem B247_3 (d : Nat) (x1 x2 x3 : Int) (μ : amM) : At cr2 d 247 3 [] [71, x1, x2, x3, 0] μ = wf 71 33 μ 0 (fun μ1 => wf 71 34 μ1 x1 (fun μ2 => bnd (RD cr2 d 242 [71] μ2) (fun v1 μ3 => (if x2 = 0 then bnd (RD cr2 d 243 [71, v1, x3] μ3) (fun v2 μ4 => At cr2 d 247 7 [v2] [0, 0, 0, 0, 0] μ4) else At cr2 d 247 4 [] [71, 0, x2, x3, v1] μ3)))) := (At_eq cr2 d 247 3 _ _ _).trans rfl
set_option maxRecDepth 20000 in
theorem B247_4 (d : Nat) (x2 x3 x4 : Int) (μ : amM) : At cr2 d 247 4 [] [71, 0, x2, x3, x4] μ = (if x2 = 1 then bnd (RD cr2 d 244 [71, x4, x3] μ) (fun v1 μ1 => At cr2 d 247 7 [v1] [0, 0, 0, 0, 0] μ1) else At cr2 d 247 5 [] [71, 0, x2, x3, x4] μ) := (At_eq cr2 d 247 4 _ _ _).trans rfl
set_option maxRecDepth 20000 in
theorem B247_5 (d : Nat) (x2 x3 x4 : Int) (μ : amM) : At cr2 d 247 5 [] [71, 0, x2, x3, x4] μ = (if x2 = 2 then bnd (RD cr2 d 245 [71, x4, x3] μ) (fun v1 μ1 => At cr2 d 247 7 [v1] [0, 0, 0, 0, 0] μ1) else At cr2 d 247 6 [] [71, 0, 0, x3, x4] μ) := (At_eq cr2 d 247 5 _ _ _).trans rfl
set_option maxRecDepth 20000 in
theorem B247_6 (d : Nat) (x3 x4 : Int) (μ : amM) : At cr2 d 247 6 [] [71, 0, 0, x3, x4] μ = bnd (RD cr2 d 246 [71, x4, x3] μ) (fun v1 μ1 => At cr2 d 247 7 [v1] [0, 0, 0, 0, 0] μ1) := (At_eq cr2 d 247 6 _ _ _).trans rfl
set_option maxRecDepth 20000 in
theorem B247_7 (d : Nat) (s0 : Int) (μ : amM) : At cr2 d 247 7 [s0] [0, 0, 0, 0, 0] μ = some (s0, μ) := (At_eq cr2 d 247 7 _ _ _).trans rfl
set_option maxRecDepth 20000 in
theorem B248_0 (d : Nat) (x1 : Int) (μ : amM) : At cr2 d 248 0 [] [71, x1] μ = bnd (RD cr2 d 151 [x1, 0, (w32 ((μ 71 33) - 1))] μ) (fun v1 μ1 => (if v1 = 0 then At cr2 d 248 1 [] [71, 0] μ1 else rd 90 40 μ1 x1 (fun v2 => At cr2 d 248 2 [v2] [0, 0] μ1))) := (At_eq cr2 d 248 0 _ _ _).trans rfl
set_option maxRecDepth 20000 in
theorem B248_1 (d : Nat) (μ : amM) : At cr2 d 248 1 [] [71, 0] μ = bnd (RD cr2 d 150 [71, 2] μ) (fun v1 μ1 => At cr2 d 248 2 [v1] [0, 0] μ1) := (At_eq cr2 d 248 1 _ _ _).trans rfl
set_option maxRecDepth 20000 in
theorem B248_2 (d : Nat) (s0 : Int) (μ : amM) : At cr2 d 248 2 [s0] [0, 0] μ = some (s0, μ) := (At_eq cr2 d 248 2 _ _ _).trans rfl
set_option maxRecDepth 20000 in
theorem B249_0 (d : Nat) (x0 : Int) (μ : amM) : At cr2 d 249 0 [] [x0] μ = bnd (RD cr2 d 151 [x0, 0, 3] μ) (fun v1 μ1 => rb v1 μ1) := (At_eq cr2 d 249 0 _ _ _).trans rfl
set_option maxRecDepth 20000 in
theorem B250_0 (d : Nat) (x1 x2 x3 : Int) (μ : amM) : At cr2 d 250 0 [] [71, x1, x2, x3, 0] μ = bnd (RD cr2 d 249 [x1] μ) (fun v1 μ1 => (if v1 = 0 then At cr2 d 250 1 [] [71, 0, 0, 0, 0] μ1 else (if x2 = 0 then At cr2 d 250 2 [] [71, x1, x2, x3, 0] μ1 else (if x2 = 8 then At cr2 d 250 2 [] [71, x1, x2, x3, 0] μ1 else (if x2 = 16 then At cr2 d 250 2 [] [71, x1, x2, x3, 0] μ1 else (if x2 = 32 then At cr2 d 250 2 [] [71, x1, x2, x3, 0] μ1 else At cr2 d 250 1 [] [71, 0, 0, 0, 0] μ1)))))) := (At_eq cr2 d 250 0 _ _ _).trans rfl
set_option maxRecDepth 20000 in
theorem B250_1 (d : Nat) (μ : amM) : At cr2 d 250 1 [] [71, 0, 0, 0, 0] μ = bnd (RD cr2 d 150 [71, 1] μ) (fun v1 μ1 => some (v1, μ1)) := (At_eq cr2 d 250 1 _ _ _).trans rfl
set_option maxRecDepth 20000 in
theorem B250_2 (d : Nat) (x1 x2 x3 : Int) (μ : amM) : At cr2 d 250 2 [] [71, x1, x2, x3, 0] μ = (if x2 = 0 then At cr2 d 250 3 [] [71, x1, x2, x3, 0] μ else (if x3 < 0 then bnd (RD cr2 d 150 [71, 3] μ) (fun v1 μ1 => some (v1, μ1)) else At cr2 d 250 3 [] [71, x1, x2, x3, 0] μ)) := (At_eq cr2 d 250 2 _ _ _).trans rfl
set_option maxRecDepth 20000 in
theorem B250_3 (d : Nat) (x1 x2 x3 : Int) (μ : amM) : At cr2 d 250 3 [] [71, x1, x2, x3, 0] μ = (if x2 = 0 then At cr2 d 250 4 [] [71, x1, x2, x3, 0] μ else (if 64 < x3 then bnd (RD cr2 d 150 [71, 1] μ) (fun v1 μ1 => some (v1, μ1)) else At cr2 d 250 4 [] [71, x1, x2, x3, 0] μ)) := (At_eq cr2 d 250 3 _ _ _).trans rfl
set_option maxRecDepth 20000 in
theorem B250_4 (d : Nat) (x1 x2 x3 : Int) (μ : amM) : At cr2 d 250 4 [] [71, x1, x2, x3, 0] μ = wr 91 4 μ x1 x2 (fun μ1 => (if x2 = 0 then At cr2 d 250 6 [0, x1, 92] [71, x1, 0, 0, 0] μ1 else At cr2 d 250 5 [x1, 92] [71, x1, 0, x3, 0] μ1)) := (At_eq cr2 d 250 4 _ _ _).trans rfl
set_option maxRecDepth 20000 in
theorem B250_5 (d : Nat) (s0 x1 x3 : Int) (μ : amM) : At cr2 d 250 5 [s0, 92] [71, x1, 0, x3, 0] μ = At cr2 d 250 6 [x3, s0, 92] [71, x1, 0, 0, 0] μ := (At_eq cr2 d 250 5 _ _ _).trans rfl
set_option maxRecDepth 20000 in
theorem B250_6 (d : Nat) (s0 s1 x1 : Int) (μ : amM) : At cr2 d 250 6 [s0, s1, 92] [71, x1, 0, 0, 0] μ = wr 92 4 μ s1 s0 (fun μ1 => At cr2 d 250 7 [] [71, x1, 0, 0, 0] μ1) := (At_eq cr2 d 250 6 _ _ _).trans rfl
set_option maxRecDepth 20000 in
theorem B250_7 (d : Nat) (x1 x4 : Int) (μ : amM) : At cr2 d 250 7 [] [71, x1, 0, 0, x4] μ = (if x4 < 64 then wr 93 256 μ (w32 ((w32 (64 * x1)) + x4)) 0 (fun μ1 => At cr2 d 250 7 [] [71, x1, 0, 0, (w32 (x4 + 1))] μ1) else At cr2 d 250 8 [] [0, 0, 0, 0, 0] μ) := (At_eq cr2 d 250 7 _ _ _).trans rfl
set_option maxRecDepth 20000 in
theorem B250_8 (d : Nat) (μ : amM) : At cr2 d 250 8 [] [0, 0, 0, 0, 0] μ = some (1, μ) := (At_eq cr2 d 250 8 _ _ _).trans rfl
set_option maxRecDepth 20000 in
theorem B251_0 (d : Nat) (x1 x2 x3 : Int) (μ : amM) : At cr2 d 251 0 [] [71, x1, x2, x3] μ = bnd (RD cr2 d 249 [x1] μ) (fun v1 μ1 => (if v1 = 0 then bnd (RD cr2 d 150 [71, 1] μ1) (fun v2 μ2 => some (v2, μ2)) else At cr2 d 251 1 [] [71, x1, x2, x3] μ1)) := (At_eq cr2 d 251 0 _ _ _).trans rfl
set_option maxRecDepth 20000 in
theorem B251_1 (d : Nat) (x1 x2 x3 : Int) (μ : amM) : At cr2 d 251 1 [] [71, x1, x2, x3] μ = rd 91 4 μ x1 (fun v1 => (if v1 = 0 then bnd (RD cr2 d 150 [71, 2] μ) (fun v2 μ1 => some (v2, μ1)) else At cr2 d 251 2 [] [71, x1, x2, x3] μ)) := (At_eq cr2 d 251 1 _ _ _).trans rfl
set_option maxRecDepth 20000 in
theorem B251_2 (d : Nat) (x1 x2 x3 : Int) (μ : amM) : At cr2 d 251 2 [] [71, x1, x2, x3] μ = rd 92 4 μ x1 (fun v1 => bnd (RD cr2 d 151 [x2, 0, (w32 (v1 - 1))] μ) (fun v2 μ1 => (if v2 = 0 then bnd (RD cr2 d 150 [71, 1] μ1) (fun v3 μ2 => some (v3, μ2)) else At cr2 d 251 3 [] [71, x1, x2, x3] μ1))) := (At_eq cr2 d 251 2 _ _ _).trans rfl
set_option maxRecDepth 20000 in
theorem B251_3 (d : Nat) (x1 x2 x3 : Int) (μ : amM) : At cr2 d 251 3 [] [71, x1, x2, x3] μ = rd 91 4 μ x1 (fun v1 => (if v1 = 8 then At cr2 d 251 6 [(x3.bmod 256), (w32 ((w32 (64 * x1)) + x2)), 93] [0, 0, 0, 0] μ else At cr2 d 251 4 [(w32 ((w32 (64 * x1)) + x2)), 93] [71, x1, 0, x3] μ)) := (At_eq cr2 d 251 3 _ _ _).trans rfl
set_option maxRecDepth 20000 in
theorem B251_4 (d : Nat) (s0 x1 x3 : Int) (μ : amM) : At cr2 d 251 4 [s0, 93] [71, x1, 0, x3] μ = rd 91 4 μ x1 (fun v1 => (if v1 = 16 then At cr2 d 251 6 [(x3.bmod 65536), s0, 93] [0, 0, 0, 0] μ else At cr2 d 251 5 [s0, 93] [0, 0, 0, x3] μ)) := (At_eq cr2 d 251 4 _ _ _).trans rfl
set_option maxRecDepth 20000 in
theorem B251_5 (d : Nat) (s0 x3 : Int) (μ : amM) : At cr2 d 251 5 [s0, 93] [0, 0, 0, x3] μ = At cr2 d 251 6 [x3, s0, 93] [0, 0, 0, 0] μ := (At_eq cr2 d 251 5 _ _ _).trans rfl
set_option maxRecDepth 20000 in
theorem B251_6 (d : Nat) (s0 s1 : Int) (μ : amM) : At cr2 d 251 6 [s0, s1, 93] [0, 0, 0, 0] μ = wr 93 256 μ s1 s0 (fun μ1 => some (1, μ1)) := (At_eq cr2 d 251 6 _ _ _).trans rfl
set_option maxRecDepth 20000 in
theorem B252_0 (d : Nat) (x1 x2 x3 x4 x5 : Int) (μ : amM) : At cr2 d 252 0 [] [71, x1, x2, x3, x4, x5, 0] μ = bnd (RD cr2 d 249 [x1] μ) (fun v1 μ1 => (if v1 = 0 then At cr2 d 252 1 [] [71, 0, 0, 0, 0, 0, 0] μ1 else bnd (RD cr2 d 249 [x3] μ1) (fun v2 μ2 => (if v2 = 0 then At cr2 d 252 1 [] [71, 0, 0, 0, 0, 0, 0] μ2 else At cr2 d 252 2 [] [71, x1, x2, x3, x4, x5, 0] μ2)))) := (At_eq cr2 d 252 0 _ _ _).trans rfl
set_option maxRecDepth 20000 in
theorem B252_1 (d : Nat) (μ : amM) : At cr2 d 252 1 [] [71, 0, 0, 0, 0, 0, 0] μ = bnd (RD cr2 d 150 [71, 1] μ) (fun v1 μ1 => some (v1, μ1)) := (At_eq cr2 d 252 1 _ _ _).trans rfl
set_option maxRecDepth 20000 in
theorem B252_2 (d : Nat) (x1 x2 x3 x4 x5 : Int) (μ : amM) : At cr2 d 252 2 [] [71, x1, x2, x3, x4, x5, 0] μ = rd 91 4 μ x1 (fun v1 => (if v1 = 0 then At cr2 d 252 3 [] [71, 0, 0, 0, 0, 0, 0] μ else rd 91 4 μ x3 (fun v2 => (if v2 = 0 then At cr2 d 252 3 [] [71, 0, 0, 0, 0, 0, 0] μ else At cr2 d 252 4 [] [71, x1, x2, x3, x4, x5, 0] μ)))) := (At_eq cr2 d 252 2 _ _ _).trans rfl
set_option maxRecDepth 20000 in
theorem B252_3 (d : Nat) (μ : amM) : At cr2 d 252 3 [] [71, 0, 0, 0, 0, 0, 0] μ = bnd (RD cr2 d 150 [71, 2] μ) (fun v1 μ1 => some (v1, μ1)) := (At_eq cr2 d 252 3 _ _ _).trans rfl
set_option maxRecDepth 20000 in
theorem B252_4 (d : Nat) (x1 x2 x3 x4 x5 : Int) (μ : amM) : At cr2 d 252 4 [] [71, x1, x2, x3, x4, x5, 0] μ = rd 91 4 μ x1 (fun v1 => rd 91 4 μ x3 (fun v2 => (if v1 = v2 then At cr2 d 252 5 [] [71, x1, x2, x3, x4, x5, 0] μ else bnd (RD cr2 d 150 [71, 5] μ) (fun v3 μ1 => some (v3, μ1))))) := (At_eq cr2 d 252 4 _ _ _).trans rfl
set_option maxRecDepth 20000 in
theorem B252_5 (d : Nat) (x1 x2 x3 x4 x5 : Int) (μ : amM) : At cr2 d 252 5 [] [71, x1, x2, x3, x4, x5, 0] μ = (if x5 < 0 then At cr2 d 252 6 [] [71, 0, 0, 0, 0, 0, 0] μ else (if x2 < 0 then At cr2 d 252 6 [] [71, 0, 0, 0, 0, 0, 0] μ else (if x4 < 0 then At cr2 d 252 6 [] [71, 0, 0, 0, 0, 0, 0] μ else rd 92 4 μ x1 (fun v1 => (if (w32 (v1 - x2)) < x5 then At cr2 d 252 6 [] [71, 0, 0, 0, 0, 0, 0] μ else rd 92 4 μ x3 (fun v2 => (if (w32 (v2 - x4)) < x5 then At cr2 d 252 6 [] [71, 0, 0, 0, 0, 0, 0] μ else At cr2 d 252 7 [] [71, x1, x2, x3, x4, x5, 0] μ))))))) := (At_eq cr2 d 252 5 _ _ _).trans rfl
set_option maxRecDepth 20000 in
theorem B252_6 (d : Nat) (μ : amM) : At cr2 d 252 6 [] [71, 0, 0, 0, 0, 0, 0] μ = bnd (RD cr2 d 150 [71, 1] μ) (fun v1 μ1 => some (v1, μ1)) := (At_eq cr2 d 252 6 _ _ _).trans rfl
set_option maxRecDepth 20000 in
theorem B252_7 (d : Nat) (x1 x2 x3 x4 x5 : Int) (μ : amM) : At cr2 d 252 7 [] [71, x1, x2, x3, x4, x5, 0] μ = At cr2 d 252 8 [] [71, x1, x2, x3, x4, x5, 0] μ := (At_eq cr2 d 252 7 _ _ _).trans rfl
set_option maxRecDepth 20000 in
theorem B252_8 (d : Nat) (x1 x2 x3 x4 x5 x6 : Int) (μ : amM) : At cr2 d 252 8 [] [71, x1, x2, x3, x4, x5, x6] μ = (if x6 < x5 then rd 93 256 μ (w32 ((w32 ((w32 (64 * x1)) + x2)) + x6)) (fun v1 => wr 94 64 μ x6 v1 (fun μ1 => At cr2 d 252 8 [] [71, x1, x2, x3, x4, x5, (w32 (x6 + 1))] μ1)) else At cr2 d 252 9 [] [71, 0, 0, x3, x4, x5, 0] μ) := (At_eq cr2 d 252 8 _ _ _).trans rfl
set_option maxRecDepth 20000 in
theorem B252_9 (d : Nat) (x3 x4 x5 : Int) (μ : amM) : At cr2 d 252 9 [] [71, 0, 0, x3, x4, x5, 0] μ = At cr2 d 252 10 [] [71, 0, 0, x3, x4, x5, 0] μ := (At_eq cr2 d 252 9 _ _ _).trans rfl
set_option maxRecDepth 20000 in
theorem B252_10 (d : Nat) (x3 x4 x5 x6 : Int) (μ : amM) : At cr2 d 252 10 [] [71, 0, 0, x3, x4, x5, x6] μ = (if x6 < x5 then rd 94 64 μ x6 (fun v1 => wr 93 256 μ (w32 ((w32 ((w32 (64 * x3)) + x4)) + x6)) v1 (fun μ1 => At cr2 d 252 10 [] [71, 0, 0, x3, x4, x5, (w32 (x6 + 1))] μ1)) else At cr2 d 252 11 [] [0, 0, 0, 0, 0, x5, 0] μ) := (At_eq cr2 d 252 10 _ _ _).trans rfl
set_option maxRecDepth 20000 in
theorem B252_11 (d : Nat) (x5 : Int) (μ : amM) : At cr2 d 252 11 [] [0, 0, 0, 0, 0, x5, 0] μ = some (x5, μ) := (At_eq cr2 d 252 11 _ _ _).trans rfl
set_option maxRecDepth 20000 in
theorem B253_0 (d : Nat) (x1 : Int) (μ : amM) : At cr2 d 253 0 [] [71, x1, 0, 0, 0, 0] μ = bnd (RD cr2 d 249 [x1] μ) (fun v1 μ1 => (if v1 = 0 then bnd (RD cr2 d 150 [71, 1] μ1) (fun v2 μ2 => some (v2, μ2)) else At cr2 d 253 1 [] [71, x1, 0, 0, 0, 0] μ1)) := (At_eq cr2 d 253 0 _ _ _).trans rfl
set_option maxRecDepth 20000 in
theorem B253_1 (d : Nat) (x1 : Int) (μ : amM) : At cr2 d 253 1 [] [71, x1, 0, 0, 0, 0] μ = rd 91 4 μ x1 (fun v1 => (if v1 = 0 then bnd (RD cr2 d 150 [71, 2] μ) (fun v2 μ1 => some (v2, μ1)) else At cr2 d 253 2 [] [71, x1, 0, 0, 0, 0] μ)) := (At_eq cr2 d 253 1 _ _ _).trans rfl
set_option maxRecDepth 20000 in
theorem B253_2 (d : Nat) (x1 : Int) (μ : amM) : At cr2 d 253 2 [] [71, x1, 0, 0, 0, 0] μ = bnd (RD cr2 d 219 [71] μ) (fun _ μ1 => At cr2 d 253 3 [] [71, x1, 0, 0, 0, 0] μ1) := (At_eq cr2 d 253 2 _ _ _).trans rfl
set_option maxRecDepth 20000 in
theorem B253_3 (d : Nat) (x1 x2 x3 : Int) (μ : amM) : At cr2 d 253 3 [] [71, x1, x2, x3, 0, 0] μ = rd 92 4 μ x1 (fun v1 => (if x3 < v1 then (if x3 = 0 then bnd (RD cr2 d 254 [71, 81] μ) (fun v2 μ1 => At cr2 d 253 9 [] [71, x1, v2, x3, 0, 0] μ1) else At cr2 d 253 4 [] [71, x1, x2, x3, 0, 0] μ) else At cr2 d 253 10 [] [71, x1, 0, 0, 0, 0] μ)) := (At_eq cr2 d 253 3 _ _ _).trans rfl
set_option maxRecDepth 20000 in
theorem B253_4 (d : Nat) (x1 x2 x3 : Int) (μ : amM) : At cr2 d 253 4 [] [71, x1, x2, x3, 0, 0] μ = At cr2 d 253 5 [] [71, x1, x2, x3, 0, 0] μ := (At_eq cr2 d 253 4 _ _ _).trans rfl
set_option maxRecDepth 20000 in
theorem B253_5 (d : Nat) (x1 x2 x3 x4 x5 : Int) (μ : amM) : At cr2 d 253 5 [] [71, x1, x2, x3, x4, x5] μ = (if x5 < 81 then rd 86 6561 μ (w32 ((w32 (81 * x2)) + x5)) (fun v1 => (if v1 = 0 then At cr2 d 253 6 [x4] [71, x1, x2, x3, 0, x5] μ else At cr2 d 253 7 [1, x4] [71, x1, x2, x3, 0, x5] μ)) else At cr2 d 253 8 [] [71, x1, x2, x3, x4, 0] μ) := (At_eq cr2 d 253 5 _ _ _).trans rfl
set_option maxRecDepth 20000 in
theorem B253_6 (d : Nat) (s0 x1 x2 x3 x5 : Int) (μ : amM) : At cr2 d 253 6 [s0] [71, x1, x2, x3, 0, x5] μ = At cr2 d 253 7 [0, s0] [71, x1, x2, x3, 0, x5] μ := (At_eq cr2 d 253 6 _ _ _).trans rfl
set_option maxRecDepth 20000 in
theorem B253_7 (d : Nat) (s0 s1 x1 x2 x3 x5 : Int) (μ : amM) : At cr2 d 253 7 [s0, s1] [71, x1, x2, x3, 0, x5] μ = At cr2 d 253 5 [] [71, x1, x2, x3, (w32 (s1 + s0)), (w32 (x5 + 1))] μ := (At_eq cr2 d 253 7 _ _ _).trans rfl
set_option maxRecDepth 20000 in
theorem B253_8 (d : Nat) (x1 x2 x3 x4 : Int) (μ : amM) : At cr2 d 253 8 [] [71, x1, x2, x3, x4, 0] μ = bnd (RD cr2 d 254 [71, x4] μ) (fun v1 μ1 => bnd (RD cr2 d 255 [71, x2, v1] μ1) (fun v2 μ2 => At cr2 d 253 9 [] [71, x1, v2, x3, 0, 0] μ2)) := (At_eq cr2 d 253 8 _ _ _).trans rfl
set_option maxRecDepth 20000 in
theorem B253_9 (d : Nat) (x1 x2 x3 : Int) (μ : amM) : At cr2 d 253 9 [] [71, x1, x2, x3, 0, 0] μ = wr 93 256 μ (w32 ((w32 (64 * x1)) + x3)) x2 (fun μ1 => At cr2 d 253 3 [] [71, x1, x2, (w32 (x3 + 1)), 0, 0] μ1) := (At_eq cr2 d 253 9 _ _ _).trans rfl
set_option maxRecDepth 20000 in
theorem B253_10 (d : Nat) (x1 : Int) (μ : amM) : At cr2 d 253 10 [] [71, x1, 0, 0, 0, 0] μ = rd 92 4 μ x1 (fun v1 => some (v1, μ)) := (At_eq cr2 d 253 10 _ _ _).trans rfl
set_option maxRecDepth 20000 in
theorem B254_0 (d : Nat) (x1 : Int) (μ : amM) : At cr2 d 254 0 [] [71, x1] μ = bnd (RD cr2 d 227 [71] μ) (fun v1 μ1 => if x1 = 0 then none else some ((v1.tmod x1), μ1)) := (At_eq cr2 d 254 0 _ _ _).trans rfl
set_option maxRecDepth 20000 in
theorem B255_0 (d : Nat) (x1 x2 : Int) (μ : amM) : At cr2 d 255 0 [] [71, x1, x2, 0, 0] μ = At cr2 d 255 1 [] [71, x1, x2, 0, 0] μ := (At_eq cr2 d 255 0 _ _ _).trans rfl
set_option maxRecDepth 20000 in
theorem B255_1 (d : Nat) (x1 x2 x3 x4 : Int) (μ : amM) : At cr2 d 255 1 [] [71, x1, x2, x3, x4] μ = (if x4 < 81 then rd 86 6561 μ (w32 ((w32 (81 * x1)) + x4)) (fun v1 => (if v1 = 0 then At cr2 d 255 3 [] [71, x1, x2, x3, x4] μ else (if x3 = x2 then some (x4, μ) else At cr2 d 255 2 [] [71, x1, x2, x3, x4] μ))) else At cr2 d 255 4 [] [0, 0, 0, 0, 0] μ) := (At_eq cr2 d 255 1 _ _ _).trans rfl
set_option maxRecDepth 20000 in
theorem B255_2 (d : Nat) (x1 x2 x3 x4 : Int) (μ : amM) : At cr2 d 255 2 [] [71, x1, x2, x3, x4] μ = At cr2 d 255 3 [] [71, x1, x2, (w32 (x3 + 1)), x4] μ := (At_eq cr2 d 255 2 _ _ _).trans rfl
set_option maxRecDepth 20000 in
theorem B255_3 (d : Nat) (x1 x2 x3 x4 : Int) (μ : amM) : At cr2 d 255 3 [] [71, x1, x2, x3, x4] μ = At cr2 d 255 1 [] [71, x1, x2, x3, (w32 (x4 + 1))] μ := (At_eq cr2 d 255 3 _ _ _).trans rfl
set_option maxRecDepth 20000 in
theorem B255_4 (d : Nat) (μ : amM) : At cr2 d 255 4 [] [0, 0, 0, 0, 0] μ = some ((-1), μ) := (At_eq cr2 d 255 4 _ _ _).trans rfl
set_option maxRecDepth 20000 in
theorem B256_0 (d : Nat) (x1 : Int) (μ : amM) : At cr2 d 256 0 [] [71, x1, 0, 0, 0] μ = bnd (RD cr2 d 249 [x1] μ) (fun v1 μ1 => (if v1 = 0 then bnd (RD cr2 d 150 [71, 1] μ1) (fun v2 μ2 => some (v2, μ2)) else At cr2 d 256 1 [] [71, x1, 0, 0, 0] μ1)) := (At_eq cr2 d 256 0 _ _ _).trans rfl
set_option maxRecDepth 20000 in
theorem B256_1 (d : Nat) (x1 : Int) (μ : amM) : At cr2 d 256 1 [] [71, x1, 0, 0, 0] μ = rd 91 4 μ x1 (fun v1 => (if v1 = 0 then bnd (RD cr2 d 150 [71, 2] μ) (fun v2 μ1 => some (v2, μ1)) else At cr2 d 256 2 [] [71, x1, 0, 0, 0] μ)) := (At_eq cr2 d 256 1 _ _ _).trans rfl
set_option maxRecDepth 20000 in
theorem B256_2 (d : Nat) (x1 : Int) (μ : amM) : At cr2 d 256 2 [] [71, x1, 0, 0, 0] μ = At cr2 d 256 3 [] [71, x1, 0, 1, 0] μ := (At_eq cr2 d 256 2 _ _ _).trans rfl
set_option maxRecDepth 20000 in
theorem B256_3 (d : Nat) (x1 x2 x3 : Int) (μ : amM) : At cr2 d 256 3 [] [71, x1, x2, x3, 0] μ = rd 92 4 μ x1 (fun v1 => (if x2 < v1 then (if x3 = 0 then At cr2 d 256 8 [] [0, 0, x2, 0, 0] μ else rd 93 256 μ (w32 ((w32 (64 * x1)) + x2)) (fun v2 => bnd (RD cr2 d 154 [71, x2] μ) (fun v3 μ1 => (if v3 = 0 then At cr2 d 256 4 [] [71, x1, x2, 0, 0] μ1 else bnd (RD cr2 d 151 [v2, 0, 80] μ1) (fun v4 μ2 => (if v4 = 0 then At cr2 d 256 4 [] [71, x1, x2, 0, 0] μ2 else bnd (RD cr2 d 155 [71, x2] μ2) (fun v5 μ3 => (if v5 = 0 then At cr2 d 256 4 [] [71, x1, x2, 0, 0] μ3 else bnd (RD cr2 d 189 [71, x2, 0, v2] μ3) (fun v6 μ4 => (if v6 = 0 then At cr2 d 256 4 [] [71, x1, x2, 0, 0] μ4 else At cr2 d 256 5 [1] [71, x1, x2, 0, 0] μ4)))))))))) else At cr2 d 256 8 [] [0, 0, x2, 0, 0] μ)) := (At_eq cr2 d 256 3 _ _ _).trans rfl
set_option maxRecDepth 20000 in
theorem B256_4 (d : Nat) (x1 x2 : Int) (μ : amM) : At cr2 d 256 4 [] [71, x1, x2, 0, 0] μ = At cr2 d 256 5 [0] [71, x1, x2, 0, 0] μ := (At_eq cr2 d 256 4 _ _ _).trans rfl
set_option maxRecDepth 20000 in
theorem B256_5 (d : Nat) (s0 x1 x2 : Int) (μ : amM) : At cr2 d 256 5 [s0] [71, x1, x2, 0, 0] μ = (if s0 = 0 then At cr2 d 256 6 [x2] [71, x1, 0, s0, 0] μ else At cr2 d 256 7 [1, x2] [71, x1, 0, s0, 0] μ) := (At_eq cr2 d 256 5 _ _ _).trans rfl
set_option maxRecDepth 20000 in
theorem B256_6 (d : Nat) (s0 x1 x3 : Int) (μ : amM) : At cr2 d 256 6 [s0] [71, x1, 0, x3, 0] μ = At cr2 d 256 7 [0, s0] [71, x1, 0, x3, 0] μ := (At_eq cr2 d 256 6 _ _ _).trans rfl
set_option maxRecDepth 20000 in
theorem B256_7 (d : Nat) (s0 s1 x1 x3 : Int) (μ : amM) : At cr2 d 256 7 [s0, s1] [71, x1, 0, x3, 0] μ = At cr2 d 256 3 [] [71, x1, (w32 (s1 + s0)), x3, 0] μ := (At_eq cr2 d 256 7 _ _ _).trans rfl
set_option maxRecDepth 20000 in
theorem B256_8 (d : Nat) (x2 : Int) (μ : amM) : At cr2 d 256 8 [] [0, 0, x2, 0, 0] μ = some (x2, μ) := (At_eq cr2 d 256 8 _ _ _).trans rfl
set_option maxRecDepth 20000 in
theorem B257_0 (d : Nat) (x1 x2 : Int) (μ : amM) : At cr2 d 257 0 [] [71, x1, x2, 0, 0] μ = At cr2 d 257 1 [] [71, x1, x2, 0, 0] μ := (At_eq cr2 d 257 0 _ _ _).trans rfl
set_option maxRecDepth 20000 in
theorem B257_1 (d : Nat) (x1 x2 x3 x4 : Int) (μ : amM) : At cr2 d 257 1 [] [71, x1, x2, x3, x4] μ = (if x4 < 4 then (if x3 = 0 then bnd (RD cr2 d 155 [71, x1] μ) (fun v1 μ1 => (if v1 = 0 then bnd (RD cr2 d 157 [71, x1, x4] μ1) (fun v2 μ2 => (if v2 = 3 then At cr2 d 257 2 [] [71, x1, x2, 0, x4] μ2 else At cr2 d 257 3 [] [71, x1, x2, 0, x4] μ2)) else At cr2 d 257 3 [] [71, x1, x2, 0, x4] μ1)) else At cr2 d 257 2 [] [71, x1, x2, 0, x4] μ) else At cr2 d 257 5 [] [71, x1, x2, x3, 0] μ) := (At_eq cr2 d 257 1 _ _ _).trans rfl
set_option maxRecDepth 20000 in
theorem B257_2 (d : Nat) (x1 x2 x4 : Int) (μ : amM) : At cr2 d 257 2 [] [71, x1, x2, 0, x4] μ = At cr2 d 257 4 [1] [71, x1, x2, 0, x4] μ := (At_eq cr2 d 257 2 _ _ _).trans rfl
set_option maxRecDepth 20000 in
theorem B257_3 (d : Nat) (x1 x2 x4 : Int) (μ : amM) : At cr2 d 257 3 [] [71, x1, x2, 0, x4] μ = At cr2 d 257 4 [0] [71, x1, x2, 0, x4] μ := (At_eq cr2 d 257 3 _ _ _).trans rfl
set_option maxRecDepth 20000 in
theorem B257_4 (d : Nat) (s0 x1 x2 x4 : Int) (μ : amM) : At cr2 d 257 4 [s0] [71, x1, x2, 0, x4] μ = At cr2 d 257 1 [] [71, x1, x2, s0, (w32 (x4 + 1))] μ := (At_eq cr2 d 257 4 _ _ _).trans rfl
set_option maxRecDepth 20000 in
theorem B257_5 (d : Nat) (x1 x2 x3 : Int) (μ : amM) : At cr2 d 257 5 [] [71, x1, x2, x3, 0] μ = bnd (RD cr2 d 155 [71, x1] μ) (fun v1 μ1 => (if v1 = 0 then At cr2 d 257 7 [] [71, x1, x2, x3, 0] μ1 else (if x2 = (-1) then At cr2 d 257 9 [1] [0, 0, 0, 0, 0] μ1 else At cr2 d 257 6 [] [0, 0, 0, 0, 0] μ1))) := (At_eq cr2 d 257 5 _ _ _).trans rfl
set_option maxRecDepth 20000 in
theorem B257_6 (d : Nat) (μ : amM) : At cr2 d 257 6 [] [0, 0, 0, 0, 0] μ = At cr2 d 257 9 [0] [0, 0, 0, 0, 0] μ := (At_eq cr2 d 257 6 _ _ _).trans rfl
set_option maxRecDepth 20000 in
theorem B257_7 (d : Nat) (x1 x2 x3 : Int) (μ : amM) : At cr2 d 257 7 [] [71, x1, x2, x3, 0] μ = (if x3 = 0 then bnd (RD cr2 d 191 [71, x1] μ) (fun v1 μ1 => (if v1 = x2 then At cr2 d 257 9 [1] [0, 0, 0, 0, 0] μ1 else At cr2 d 257 8 [] [0, 0, 0, 0, 0] μ1)) else At cr2 d 257 8 [] [0, 0, 0, 0, 0] μ) := (At_eq cr2 d 257 7 _ _ _).trans rfl
set_option maxRecDepth 20000 in
theorem B257_8 (d : Nat) (μ : amM) : At cr2 d 257 8 [] [0, 0, 0, 0, 0] μ = At cr2 d 257 9 [0] [0, 0, 0, 0, 0] μ := (At_eq cr2 d 257 8 _ _ _).trans rfl
set_option maxRecDepth 20000 in
theorem B257_9 (d : Nat) (s0 : Int) (μ : amM) : At cr2 d 257 9 [s0] [0, 0, 0, 0, 0] μ = rb s0 μ := (At_eq cr2 d 257 9 _ _ _).trans rfl
set_option maxRecDepth 20000 in
theorem B258_0 (d : Nat) (x1 : Int) (μ : amM) : At cr2 d 258 0 [] [71, x1, 0] μ = bnd (RD cr2 d 249 [x1] μ) (fun v1 μ1 => (if v1 = 0 then bnd (RD cr2 d 150 [71, 1] μ1) (fun v2 μ2 => some (v2, μ2)) else At cr2 d 258 1 [] [71, x1, 0] μ1)) := (At_eq cr2 d 258 0 _ _ _).trans rfl
set_option maxRecDepth 20000 in
theorem B258_1 (d : Nat) (x1 : Int) (μ : amM) : At cr2 d 258 1 [] [71, x1, 0] μ = rd 91 4 μ x1 (fun v1 => (if v1 = 0 then bnd (RD cr2 d 150 [71, 2] μ) (fun v2 μ1 => some (v2, μ1)) else At cr2 d 258 2 [] [71, x1, 0] μ)) := (At_eq cr2 d 258 1 _ _ _).trans rfl
set_option maxRecDepth 20000 in
theorem B258_2 (d : Nat) (x1 : Int) (μ : amM) : At cr2 d 258 2 [] [71, x1, 0] μ = At cr2 d 258 3 [] [71, x1, 0] μ := (At_eq cr2 d 258 2 _ _ _).trans rfl
set_option maxRecDepth 20000 in
theorem B258_3 (d : Nat) (x1 x2 : Int) (μ : amM) : At cr2 d 258 3 [] [71, x1, x2] μ = rd 92 4 μ x1 (fun v1 => (if x2 < v1 then bnd (RD cr2 d 153 [71] μ) (fun v2 μ1 => (if x2 < v2 then rd 93 256 μ1 (w32 ((w32 (64 * x1)) + x2)) (fun v3 => bnd (RD cr2 d 257 [71, x2, v3] μ1) (fun v4 μ2 => (if v4 = 0 then At cr2 d 258 4 [] [71, x1, x2] μ2 else At cr2 d 258 3 [] [71, x1, (w32 (x2 + 1))] μ2))) else At cr2 d 258 4 [] [71, x1, x2] μ1)) else At cr2 d 258 4 [] [71, x1, x2] μ)) := (At_eq cr2 d 258 3 _ _ _).trans rfl
set_option maxRecDepth 20000 in
theorem B258_4 (d : Nat) (x1 x2 : Int) (μ : amM) : At cr2 d 258 4 [] [71, x1, x2] μ = rd 92 4 μ x1 (fun v1 => (if x2 = v1 then bnd (RD cr2 d 153 [71] μ) (fun v2 μ1 => (if x2 = v2 then At cr2 d 258 6 [(-1)] [0, 0, 0] μ1 else At cr2 d 258 5 [] [0, 0, x2] μ1)) else At cr2 d 258 5 [] [0, 0, x2] μ)) := (At_eq cr2 d 258 4 _ _ _).trans rfl
set_option maxRecDepth 20000 in
theorem B258_5 (d : Nat) (x2 : Int) (μ : amM) : At cr2 d 258 5 [] [0, 0, x2] μ = At cr2 d 258 6 [x2] [0, 0, 0] μ := (At_eq cr2 d 258 5 _ _ _).trans rfl
set_option maxRecDepth 20000 in
theorem B258_6 (d : Nat) (s0 : Int) (μ : amM) : At cr2 d 258 6 [s0] [0, 0, 0] μ = some (s0, μ) := (At_eq cr2 d 258 6 _ _ _).trans rfl
set_option maxRecDepth 20000 in
theorem B259_0 (d : Nat) (μ : amM) : At cr2 d 259 0 [] [71, 0] μ = At cr2 d 259 1 [] [71, 0] μ := (At_eq cr2 d 259 0 _ _ _).trans rfl
set_option maxRecDepth 20000 in
theorem B259_1 (d : Nat) (x1 : Int) (μ : amM) : At cr2 d 259 1 [] [71, x1] μ = (if x1 < 576 then rd 72 576 μ x1 (fun v1 => wr 73 576 μ x1 v1 (fun μ1 => At cr2 d 259 1 [] [71, (w32 (x1 + 1))] μ1)) else At cr2 d 259 2 [] [71, 0] μ) := (At_eq cr2 d 259 1 _ _ _).trans rfl
set_option maxRecDepth 20000 in
theorem B259_2 (d : Nat) (μ : amM) : At cr2 d 259 2 [] [71, 0] μ = wf 71 2 μ (w32 ((μ 71 2) + 1)) (fun μ1 => some ((μ1 71 2), μ1)) := (At_eq cr2 d 259 2 _ _ _).trans rfl
set_option maxRecDepth 20000 in
theorem B260_0 (d : Nat) (μ : amM) : At cr2 d 260 0 [] [71, 0] μ = (if (μ 71 2) = 0 then bnd (RD cr2 d 150 [71, 2] μ) (fun v1 μ1 => some (v1, μ1)) else At cr2 d 260 1 [] [71, 0] μ) := (At_eq cr2 d 260 0 _ _ _).trans rfl
set_option maxRecDepth 20000 in
theorem B260_1 (d : Nat) (μ : amM) : At cr2 d 260 1 [] [71, 0] μ = At cr2 d 260 2 [] [71, 0] μ := (At_eq cr2 d 260 1 _ _ _).trans rfl
set_option maxRecDepth 20000 in
theorem B260_2 (d : Nat) (x1 : Int) (μ : amM) : At cr2 d 260 2 [] [71, x1] μ = (if x1 < 576 then rd 73 576 μ x1 (fun v1 => wr 72 576 μ x1 v1 (fun μ1 => At cr2 d 260 2 [] [71, (w32 (x1 + 1))] μ1)) else At cr2 d 260 3 [] [71, 0] μ) := (At_eq cr2 d 260 2 _ _ _).trans rfl
set_option maxRecDepth 20000 in
theorem B260_3 (d : Nat) (μ : amM) : At cr2 d 260 3 [] [71, 0] μ = some ((μ 72 5), μ) := (At_eq cr2 d 260 3 _ _ _).trans rfl
set_option maxRecDepth 20000 in
theorem B261_0 (d : Nat) (x1 : Int) (μ : amM) : At cr2 d 261 0 [] [71, x1] μ = (if (μ 72 9) = 20 then bnd (RD cr2 d 150 [71, 4] μ) (fun v2 μ1 => some (v2, μ1)) else At cr2 d 261 1 [] [71, x1] μ) := (At_eq cr2 d 261 0 _ _ _).trans rfl
set_option maxRecDepth 20000 in
theorem B261_1 (d : Nat) (x1 : Int) (μ : amM) : At cr2 d 261 1 [] [71, x1] μ = wr 72 576 μ (w32 (406 + (μ 72 9))) x1 (fun μ1 => wf 72 9 μ1 (w32 ((μ1 72 9) + 1)) (fun μ2 => some ((μ2 72 9), μ2))) := (At_eq cr2 d 261 1 _ _ _).trans rfl
set_option maxRecDepth 20000 in
theorem B262_0 (d : Nat) (μ : amM) : At cr2 d 262 0 [] [71, 0, 0] μ = wf 72 9 μ 0 (fun μ1 => bnd (RD cr2 d 175 [71] μ1) (fun _ μ2 => At cr2 d 262 1 [] [71, (μ 72 9), 0] μ2)) := (At_eq cr2 d 262 0 _ _ _).trans rfl
set_option maxRecDepth 20000 in
theorem B262_1 (d : Nat) (x1 x2 : Int) (μ : amM) : At cr2 d 262 1 [] [71, x1, x2] μ = (if x2 < x1 then bnd (RD cr2 d 154 [71, x2] μ) (fun v1 μ1 => (if v1 = 0 then At cr2 d 262 2 [] [0, 0, x2] μ1 else rd 72 576 μ1 (w32 (406 + x2)) (fun v2 => bnd (RD cr2 d 203 [71, x2] μ1) (fun v3 μ2 => (if v2 = v3 then At cr2 d 262 3 [] [71, x1, x2] μ2 else At cr2 d 262 2 [] [0, 0, x2] μ2))))) else At cr2 d 262 4 [] [0, 0, 0] μ) := (At_eq cr2 d 262 1 _ _ _).trans rfl
set_option maxRecDepth 20000 in
theorem B262_2 (d : Nat) (x2 : Int) (μ : amM) : At cr2 d 262 2 [] [0, 0, x2] μ = some ((w32 (1 + x2)), μ) := (At_eq cr2 d 262 2 _ _ _).trans rfl
set_option maxRecDepth 20000 in
theorem B262_3 (d : Nat) (x1 x2 : Int) (μ : amM) : At cr2 d 262 3 [] [71, x1, x2] μ = At cr2 d 262 1 [] [71, x1, (w32 (x2 + 1))] μ := (At_eq cr2 d 262 3 _ _ _).trans rfl
set_option maxRecDepth 20000 in
theorem B262_4 (d : Nat) (μ : amM) : At cr2 d 262 4 [] [0, 0, 0] μ = some (0, μ) := (At_eq cr2 d 262 4 _ _ _).trans rfl
set_option maxRecDepth 20000 in
theorem B263_0 (d : Nat) (x1 : Int) (μ : amM) : At cr2 d 263 0 [] [71, x1] μ = (if x1 = 0 then At cr2 d 263 1 [] [71, 0] μ else if x1 = 1 then At cr2 d 263 2 [] [71, 0] μ else if x1 = 2 then At cr2 d 263 3 [] [71, 0] μ else if x1 = 3 then At cr2 d 263 4 [] [71, 0] μ else if x1 = 4 then At cr2 d 263 5 [] [71, 0] μ else if x1 = 5 then At cr2 d 263 6 [] [71, 0] μ else if x1 = 6 then At cr2 d 263 7 [] [71, 0] μ else if x1 = 7 then At cr2 d 263 8 [] [71, 0] μ else if x1 = 8 then At cr2 d 263 9 [] [71, 0] μ else if x1 = 9 then At cr2 d 263 10 [] [71, 0] μ else if x1 = 10 then At cr2 d 263 11 [] [71, 0] μ else if x1 = 11 then At cr2 d 263 12 [] [71, 0] μ else At cr2 d 263 13 [] [71, 0] μ) := (At_eq cr2 d 263 0 _ _ _).trans rfl
set_option maxRecDepth 20000 in
theorem B263_1 (d : Nat) (μ : amM) : At cr2 d 263 1 [] [71, 0] μ = some ((μ 72 0), μ) := (At_eq cr2 d 263 1 _ _ _).trans rfl
set_option maxRecDepth 20000 in
theorem B263_2 (d : Nat) (μ : amM) : At cr2 d 263 2 [] [71, 0] μ = some ((μ 72 1), μ) := (At_eq cr2 d 263 2 _ _ _).trans rfl
set_option maxRecDepth 20000 in
theorem B263_3 (d : Nat) (μ : amM) : At cr2 d 263 3 [] [71, 0] μ = some ((μ 72 2), μ) := (At_eq cr2 d 263 3 _ _ _).trans rfl
set_option maxRecDepth 20000 in
theorem B263_4 (d : Nat) (μ : amM) : At cr2 d 263 4 [] [71, 0] μ = some ((μ 72 3), μ) := (At_eq cr2 d 263 4 _ _ _).trans rfl
set_option maxRecDepth 20000 in
theorem B263_5 (d : Nat) (μ : amM) : At cr2 d 263 5 [] [71, 0] μ = some ((μ 72 4), μ) := (At_eq cr2 d 263 5 _ _ _).trans rfl
set_option maxRecDepth 20000 in
theorem B263_6 (d : Nat) (μ : amM) : At cr2 d 263 6 [] [71, 0] μ = bnd (RD cr2 d 184 [71] μ) (fun v1 μ1 => some (v1, μ1)) := (At_eq cr2 d 263 6 _ _ _).trans rfl
set_option maxRecDepth 20000 in
theorem B263_7 (d : Nat) (μ : amM) : At cr2 d 263 7 [] [71, 0] μ = some ((μ 72 5), μ) := (At_eq cr2 d 263 7 _ _ _).trans rfl
set_option maxRecDepth 20000 in
theorem B263_8 (d : Nat) (μ : amM) : At cr2 d 263 8 [] [71, 0] μ = some ((μ 72 6), μ) := (At_eq cr2 d 263 8 _ _ _).trans rfl
set_option maxRecDepth 20000 in
theorem B263_9 (d : Nat) (μ : amM) : At cr2 d 263 9 [] [71, 0] μ = some ((μ 72 8), μ) := (At_eq cr2 d 263 9 _ _ _).trans rfl
set_option maxRecDepth 20000 in
theorem B263_10 (d : Nat) (μ : amM) : At cr2 d 263 10 [] [71, 0] μ = some ((μ 72 9), μ) := (At_eq cr2 d 263 10 _ _ _).trans rfl
set_option maxRecDepth 20000 in
theorem B263_11 (d : Nat) (μ : amM) : At cr2 d 263 11 [] [71, 0] μ = some ((μ 71 33), μ) := (At_eq cr2 d 263 11 _ _ _).trans rfl
set_option maxRecDepth 20000 in
theorem B263_12 (d : Nat) (μ : amM) : At cr2 d 263 12 [] [71, 0] μ = some ((μ 72 7), μ) := (At_eq cr2 d 263 12 _ _ _).trans rfl
set_option maxRecDepth 20000 in
theorem B263_13 (d : Nat) (μ : amM) : At cr2 d 263 13 [] [71, 0] μ = bnd (RD cr2 d 150 [71, 1] μ) (fun v1 μ1 => some (v1, μ1)) := (At_eq cr2 d 263 13 _ _ _).trans rfl
set_option maxRecDepth 20000 in
theorem B264_0 (d : Nat) (x1 : Int) (μ : amM) : At cr2 d 264 0 [] [71, x1] μ = bnd (RD cr2 d 151 [x1, 1, 5] μ) (fun v1 μ1 => (if v1 = 0 then At cr2 d 264 1 [] [71, 0] μ1 else rd 74 6 μ1 x1 (fun v2 => At cr2 d 264 2 [v2] [0, 0] μ1))) := (At_eq cr2 d 264 0 _ _ _).trans rfl
set_option maxRecDepth 20000 in
theorem B264_1 (d : Nat) (μ : amM) : At cr2 d 264 1 [] [71, 0] μ = bnd (RD cr2 d 150 [71, 1] μ) (fun v1 μ1 => At cr2 d 264 2 [v1] [0, 0] μ1) := (At_eq cr2 d 264 1 _ _ _).trans rfl
set_option maxRecDepth 20000 in
theorem B264_2 (d : Nat) (s0 : Int) (μ : amM) : At cr2 d 264 2 [s0] [0, 0] μ = some (s0, μ) := (At_eq cr2 d 264 2 _ _ _).trans rfl
set_option maxRecDepth 20000 in
theorem B265_0 (d : Nat) (x0 : Int) (μ : amM) : At cr2 d 265 0 [] [x0] μ = some ((bAnd (w32 ((w32 ((bAnd (w32 ((w32 ((bAnd (w32 (x0 - (bAnd (bUshr x0 1) 1431655765))) 858993459) + (bAnd (bUshr (w32 (x0 - (bAnd (bUshr x0 1) 1431655765))) 2) 858993459))) + (bUshr (w32 ((bAnd (w32 (x0 - (bAnd (bUshr x0 1) 1431655765))) 858993459) + (bAnd (bUshr (w32 (x0 - (bAnd (bUshr x0 1) 1431655765))) 2) 858993459))) 4))) 252645135) + (bUshr (bAnd (w32 ((w32 ((bAnd (w32 (x0 - (bAnd (bUshr x0 1) 1431655765))) 858993459) + (bAnd (bUshr (w32 (x0 - (bAnd (bUshr x0 1) 1431655765))) 2) 858993459))) + (bUshr (w32 ((bAnd (w32 (x0 - (bAnd (bUshr x0 1) 1431655765))) 858993459) + (bAnd (bUshr (w32 (x0 - (bAnd (bUshr x0 1) 1431655765))) 2) 858993459))) 4))) 252645135) 8))) + (bUshr (w32 ((bAnd (w32 ((w32 ((bAnd (w32 (x0 - (bAnd (bUshr x0 1) 1431655765))) 858993459) + (bAnd (bUshr (w32 (x0 - (bAnd (bUshr x0 1) 1431655765))) 2) 858993459))) + (bUshr (w32 ((bAnd (w32 (x0 - (bAnd (bUshr x0 1) 1431655765))) 858993459) + (bAnd (bUshr (w32 (x0 - (bAnd (bUshr x0 1) 1431655765))) 2) 858993459))) 4))) 252645135) + (bUshr (bAnd (w32 ((w32 ((bAnd (w32 (x0 - (bAnd (bUshr x0 1) 1431655765))) 858993459) + (bAnd (bUshr (w32 (x0 - (bAnd (bUshr x0 1) 1431655765))) 2) 858993459))) + (bUshr (w32 ((bAnd (w32 (x0 - (bAnd (bUshr x0 1) 1431655765))) 858993459) + (bAnd (bUshr (w32 (x0 - (bAnd (bUshr x0 1) 1431655765))) 2) 858993459))) 4))) 252645135) 8))) 16))) 63), μ) := (At_eq cr2 d 265 0 _ _ _).trans rfl
set_option maxRecDepth 20000 in
theorem B266_0 (d : Nat) (x0 x1 : Int) (μ : amM) : At cr2 d 266 0 [] [x0, x1] μ = (if x0 < x1 then At cr2 d 266 1 [] [0, x1] μ else At cr2 d 266 2 [x0] [0, 0] μ) := (At_eq cr2 d 266 0 _ _ _).trans rfl
set_option maxRecDepth 20000 in
theorem B266_1 (d : Nat) (x1 : Int) (μ : amM) : At cr2 d 266 1 [] [0, x1] μ = At cr2 d 266 2 [x1] [0, 0] μ := (At_eq cr2 d 266 1 _ _ _).trans rfl
set_option maxRecDepth 20000 in
theorem B266_2 (d : Nat) (s0 : Int) (μ : amM) : At cr2 d 266 2 [s0] [0, 0] μ = some (s0, μ) := (At_eq cr2 d 266 2 _ _ _).trans rfl
set_option maxRecDepth 20000 in
theorem B267_0 (d : Nat) (x0 x1 : Int) (μ : amM) : At cr2 d 267 0 [] [x0, x1] μ = (if x1 < x0 then At cr2 d 267 1 [] [0, x1] μ else At cr2 d 267 2 [x0] [0, 0] μ) := (At_eq cr2 d 267 0 _ _ _).trans rfl
set_option maxRecDepth 20000 in
theorem B267_1 (d : Nat) (x1 : Int) (μ : amM) : At cr2 d 267 1 [] [0, x1] μ = At cr2 d 267 2 [x1] [0, 0] μ := (At_eq cr2 d 267 1 _ _ _).trans rfl
set_option maxRecDepth 20000 in
theorem B267_2 (d : Nat) (s0 : Int) (μ : amM) : At cr2 d 267 2 [s0] [0, 0] μ = some (s0, μ) := (At_eq cr2 d 267 2 _ _ _).trans rfl
set_option maxRecDepth 20000 in
theorem B268_1 (d : Nat) (x3 : Int) (μ : amM) : At cr2 d 268 1 [] [302, 0, 71, x3] μ = (if (w32 ((μ 302 0) - 6)) < x3 then At cr2 d 268 45 [] [0, 0, 0, 0] μ else amAld μ 302 x3 (fun v1 => (if (bAnd v1 63) = 0 then At cr2 d 268 2 [] [302, 0, 71, x3] μ else if (bAnd v1 63) = 1 then At cr2 d 268 3 [] [302, 0, 71, x3] μ else if (bAnd v1 63) = 2 then At cr2 d 268 4 [] [302, 0, 71, x3] μ else if (bAnd v1 63) = 3 then At cr2 d 268 5 [] [302, 0, 71, x3] μ else if (bAnd v1 63) = 4 then At cr2 d 268 6 [] [302, 0, 71, x3] μ else if (bAnd v1 63) = 5 then At cr2 d 268 7 [] [302, 0, 71, x3] μ else if (bAnd v1 63) = 6 then At cr2 d 268 8 [] [302, 0, 71, x3] μ else if (bAnd v1 63) = 7 then At cr2 d 268 9 [] [302, 0, 71, x3] μ else if (bAnd v1 63) = 8 then At cr2 d 268 10 [] [302, 0, 71, x3] μ else if (bAnd v1 63) = 9 then At cr2 d 268 11 [] [302, 0, 71, x3] μ else if (bAnd v1 63) = 10 then At cr2 d 268 12 [] [302, 0, 71, x3] μ else if (bAnd v1 63) = 11 then At cr2 d 268 13 [] [302, 0, 71, x3] μ else if (bAnd v1 63) = 12 then At cr2 d 268 14 [] [302, 0, 71, x3] μ else if (bAnd v1 63) = 13 then At cr2 d 268 15 [] [302, 0, 71, x3] μ else if (bAnd v1 63) = 14 then At cr2 d 268 16 [] [302, 0, 71, x3] μ else if (bAnd v1 63) = 15 then At cr2 d 268 17 [] [302, 0, 71, x3] μ else if (bAnd v1 63) = 16 then At cr2 d 268 18 [] [302, 0, 71, x3] μ else if (bAnd v1 63) = 17 then At cr2 d 268 19 [] [302, 0, 71, x3] μ else if (bAnd v1 63) = 18 then At cr2 d 268 20 [] [302, 0, 71, x3] μ else if (bAnd v1 63) = 19 then At cr2 d 268 21 [] [302, 0, 71, x3] μ else if (bAnd v1 63) = 20 then At cr2 d 268 22 [] [302, 0, 71, x3] μ else if (bAnd v1 63) = 21 then At cr2 d 268 23 [] [302, 0, 71, x3] μ else if (bAnd v1 63) = 22 then At cr2 d 268 24 [] [302, 0, 71, x3] μ else if (bAnd v1 63) = 23 then At cr2 d 268 25 [] [302, 0, 71, x3] μ else if (bAnd v1 63) = 24 then At cr2 d 268 26 [] [302, 0, 71, x3] μ else if (bAnd v1 63) = 25 then At cr2 d 268 27 [] [302, 0, 71, x3] μ else if (bAnd v1 63) = 26 then At cr2 d 268 28 [] [302, 0, 71, x3] μ else if (bAnd v1 63) = 27 then At cr2 d 268 29 [] [302, 0, 71, x3] μ else if (bAnd v1 63) = 28 then At cr2 d 268 30 [] [302, 0, 71, x3] μ else if (bAnd v1 63) = 29 then At cr2 d 268 31 [] [302, 0, 71, x3] μ else if (bAnd v1 63) = 30 then At cr2 d 268 32 [] [302, 0, 71, x3] μ else if (bAnd v1 63) = 31 then At cr2 d 268 33 [] [302, 0, 71, x3] μ else if (bAnd v1 63) = 32 then At cr2 d 268 34 [] [302, 0, 71, x3] μ else if (bAnd v1 63) = 33 then At cr2 d 268 35 [] [302, 0, 71, x3] μ else if (bAnd v1 63) = 34 then At cr2 d 268 36 [] [302, 0, 71, x3] μ else if (bAnd v1 63) = 35 then At cr2 d 268 37 [] [302, 0, 71, x3] μ else if (bAnd v1 63) = 36 then At cr2 d 268 38 [] [302, 0, 71, x3] μ else if (bAnd v1 63) = 37 then At cr2 d 268 39 [] [302, 0, 71, x3] μ else if (bAnd v1 63) = 38 then At cr2 d 268 40 [] [302, 0, 71, x3] μ else if (bAnd v1 63) = 39 then At cr2 d 268 41 [] [302, 0, 71, x3] μ else if (bAnd v1 63) = 40 then At cr2 d 268 42 [] [302, 0, 71, x3] μ else if (bAnd v1 63) = 41 then At cr2 d 268 43 [] [302, 0, 71, x3] μ else At cr2 d 268 44 [] [302, 0, 71, x3] μ))) := (At_eq cr2 d 268 1 _ _ _).trans rfl
set_option maxRecDepth 20000 in
theorem B268_2 (d : Nat) (x3 : Int) (μ : amM) : At cr2 d 268 2 [] [302, 0, 71, x3] μ = amAld μ 302 (w32 (x3 + 1)) (fun v1 => amAld μ 302 (w32 (x3 + 2)) (fun v2 => amAld μ 302 (w32 (x3 + 3)) (fun v3 => bnd (RD cr2 d 99 [0, v1, v2, v3] μ) (fun v4 μ1 => amAld μ1 302 (w32 (x3 + 1)) (fun v5 => amAld μ1 302 (w32 (x3 + 2)) (fun v6 => amAld μ1 302 (w32 (x3 + 3)) (fun v7 => bnd (RD cr2 d 187 [71, v5, v6, v7] μ1) (fun v8 μ2 => (if v4 = v8 then At cr2 d 268 44 [] [302, 0, 71, x3] μ2 else some (0, μ2)))))))))) := (At_eq cr2 d 268 2 _ _ _).trans rfl
set_option maxRecDepth 20000 in
theorem B268_3 (d : Nat) (x3 : Int) (μ : amM) : At cr2 d 268 3 [] [302, 0, 71, x3] μ = amAld μ 302 (w32 (x3 + 1)) (fun v1 => amAld μ 302 (w32 (x3 + 2)) (fun v2 => bnd (RD cr2 d 100 [0, v1, v2] μ) (fun v3 μ1 => amAld μ1 302 (w32 (x3 + 1)) (fun v4 => amAld μ1 302 (w32 (x3 + 2)) (fun v5 => bnd (RD cr2 d 188 [71, v4, v5] μ1) (fun v6 μ2 => (if v3 = v6 then At cr2 d 268 44 [] [302, 0, 71, x3] μ2 else some (0, μ2)))))))) := (At_eq cr2 d 268 3 _ _ _).trans rfl
set_option maxRecDepth 20000 in
theorem B268_4 (d : Nat) (x3 : Int) (μ : amM) : At cr2 d 268 4 [] [302, 0, 71, x3] μ = amAld μ 302 (w32 (x3 + 1)) (fun v1 => amAld μ 302 (w32 (x3 + 2)) (fun v2 => amAld μ 302 (w32 (x3 + 3)) (fun v3 => bnd (RD cr2 d 101 [0, v1, v2, v3] μ) (fun v4 μ1 => amAld μ1 302 (w32 (x3 + 1)) (fun v5 => amAld μ1 302 (w32 (x3 + 2)) (fun v6 => amAld μ1 302 (w32 (x3 + 3)) (fun v7 => bnd (RD cr2 d 190 [71, v5, v6, v7] μ1) (fun v8 μ2 => (if v4 = v8 then At cr2 d 268 44 [] [302, 0, 71, x3] μ2 else some (0, μ2)))))))))) := (At_eq cr2 d 268 4 _ _ _).trans rfl
set_option maxRecDepth 20000 in
theorem B268_5 (d : Nat) (x3 : Int) (μ : amM) : At cr2 d 268 5 [] [302, 0, 71, x3] μ = amAld μ 302 (w32 (x3 + 1)) (fun v1 => bnd (RD cr2 d 102 [0, v1] μ) (fun v2 μ1 => amAld μ1 302 (w32 (x3 + 1)) (fun v3 => bnd (RD cr2 d 192 [71, v3] μ1) (fun v4 μ2 => (if v2 = v4 then At cr2 d 268 44 [] [302, 0, 71, x3] μ2 else some (0, μ2)))))) := (At_eq cr2 d 268 5 _ _ _).trans rfl
set_option maxRecDepth 20000 in
theorem B268_6 (d : Nat) (x3 : Int) (μ : amM) : At cr2 d 268 6 [] [302, 0, 71, x3] μ = amAld μ 302 (w32 (x3 + 1)) (fun v1 => amAld μ 302 (w32 (x3 + 2)) (fun v2 => bnd (RD cr2 d 103 [0, v1, v2] μ) (fun v3 μ1 => amAld μ1 302 (w32 (x3 + 1)) (fun v4 => amAld μ1 302 (w32 (x3 + 2)) (fun v5 => bnd (RD cr2 d 193 [71, v4, v5] μ1) (fun v6 μ2 => (if v3 = v6 then At cr2 d 268 44 [] [302, 0, 71, x3] μ2 else some (0, μ2)))))))) := (At_eq cr2 d 268 6 _ _ _).trans rfl
set_option maxRecDepth 20000 in
theorem B268_7 (d : Nat) (x3 : Int) (μ : amM) : At cr2 d 268 7 [] [302, 0, 71, x3] μ = amAld μ 302 (w32 (x3 + 1)) (fun v1 => amAld μ 302 (w32 (x3 + 2)) (fun v2 => bnd (RD cr2 d 104 [0, v1, v2] μ) (fun v3 μ1 => amAld μ1 302 (w32 (x3 + 1)) (fun v4 => amAld μ1 302 (w32 (x3 + 2)) (fun v5 => bnd (RD cr2 d 194 [71, v4, v5] μ1) (fun v6 μ2 => (if v3 = v6 then At cr2 d 268 44 [] [302, 0, 71, x3] μ2 else some (0, μ2)))))))) := (At_eq cr2 d 268 7 _ _ _).trans rfl
set_option maxRecDepth 20000 in
theorem B268_8 (d : Nat) (x3 : Int) (μ : amM) : At cr2 d 268 8 [] [302, 0, 71, x3] μ = amAld μ 302 (w32 (x3 + 1)) (fun v1 => amAld μ 302 (w32 (x3 + 2)) (fun v2 => bnd (RD cr2 d 105 [0, v1, v2] μ) (fun v3 μ1 => amAld μ1 302 (w32 (x3 + 1)) (fun v4 => amAld μ1 302 (w32 (x3 + 2)) (fun v5 => bnd (RD cr2 d 196 [71, v4, v5] μ1) (fun v6 μ2 => (if v3 = v6 then At cr2 d 268 44 [] [302, 0, 71, x3] μ2 else some (0, μ2)))))))) := (At_eq cr2 d 268 8 _ _ _).trans rfl
set_option maxRecDepth 20000 in
theorem B268_9 (d : Nat) (x3 : Int) (μ : amM) : At cr2 d 268 9 [] [302, 0, 71, x3] μ = amAld μ 302 (w32 (x3 + 1)) (fun v1 => amAld μ 302 (w32 (x3 + 2)) (fun v2 => amAld μ 302 (w32 (x3 + 3)) (fun v3 => bnd (RD cr2 d 106 [0, v1, v2, v3] μ) (fun v4 μ1 => amAld μ1 302 (w32 (x3 + 1)) (fun v5 => amAld μ1 302 (w32 (x3 + 2)) (fun v6 => amAld μ1 302 (w32 (x3 + 3)) (fun v7 => bnd (RD cr2 d 199 [71, v5, v6, v7] μ1) (fun v8 μ2 => (if v4 = v8 then At cr2 d 268 44 [] [302, 0, 71, x3] μ2 else some (0, μ2)))))))))) := (At_eq cr2 d 268 9 _ _ _).trans rfl
set_option maxRecDepth 20000 in
theorem B268_10 (d : Nat) (x3 : Int) (μ : amM) : At cr2 d 268 10 [] [302, 0, 71, x3] μ = amAld μ 302 (w32 (x3 + 1)) (fun v1 => amAld μ 302 (w32 (x3 + 2)) (fun v2 => bnd (RD cr2 d 107 [0, v1, v2] μ) (fun v3 μ1 => amAld μ1 302 (w32 (x3 + 1)) (fun v4 => amAld μ1 302 (w32 (x3 + 2)) (fun v5 => bnd (RD cr2 d 200 [71, v4, v5] μ1) (fun v6 μ2 => (if v3 = v6 then At cr2 d 268 44 [] [302, 0, 71, x3] μ2 else some (0, μ2)))))))) := (At_eq cr2 d 268 10 _ _ _).trans rfl
set_option maxRecDepth 20000 in
theorem B268_11 (d : Nat) (x3 : Int) (μ : amM) : At cr2 d 268 11 [] [302, 0, 71, x3] μ = amAld μ 302 (w32 (x3 + 1)) (fun v1 => amAld μ 302 (w32 (x3 + 2)) (fun v2 => bnd (RD cr2 d 108 [0, v1, v2] μ) (fun v3 μ1 => amAld μ1 302 (w32 (x3 + 1)) (fun v4 => amAld μ1 302 (w32 (x3 + 2)) (fun v5 => bnd (RD cr2 d 204 [71, v4, v5] μ1) (fun v6 μ2 => (if v3 = v6 then At cr2 d 268 44 [] [302, 0, 71, x3] μ2 else some (0, μ2)))))))) := (At_eq cr2 d 268 11 _ _ _).trans rfl
set_option maxRecDepth 20000 in
theorem B268_12 (d : Nat) (x3 : Int) (μ : amM) : At cr2 d 268 12 [] [302, 0, 71, x3] μ = amAld μ 302 (w32 (x3 + 1)) (fun v1 => bnd (RD cr2 d 109 [0, v1] μ) (fun v2 μ1 => amAld μ1 302 (w32 (x3 + 1)) (fun v3 => bnd (RD cr2 d 205 [71, v3] μ1) (fun v4 μ2 => (if v2 = v4 then At cr2 d 268 44 [] [302, 0, 71, x3] μ2 else some (0, μ2)))))) := (At_eq cr2 d 268 12 _ _ _).trans rfl
set_option maxRecDepth 20000 in
theorem B268_13 (d : Nat) (x3 : Int) (μ : amM) : At cr2 d 268 13 [] [302, 0, 71, x3] μ = amAld μ 302 (w32 (x3 + 1)) (fun v1 => amAld μ 302 (w32 (x3 + 2)) (fun v2 => amAld μ 302 (w32 (x3 + 3)) (fun v3 => bnd (RD cr2 d 110 [0, (lOr (lShl v1 32) (lAnd v2 4294967295)), v3] μ) (fun v4 μ1 => amAld μ1 302 (w32 (x3 + 1)) (fun v5 => amAld μ1 302 (w32 (x3 + 2)) (fun v6 => amAld μ1 302 (w32 (x3 + 3)) (fun v7 => bnd (RD cr2 d 170 [71, (lOr (lShl v5 32) (lAnd v6 4294967295)), v7] μ1) (fun v8 μ2 => (if v4 = v8 then At cr2 d 268 44 [] [302, 0, 71, x3] μ2 else some (0, μ2)))))))))) := (At_eq cr2 d 268 13 _ _ _).trans rfl
set_option maxRecDepth 20000 in
theorem B268_14 (d : Nat) (x3 : Int) (μ : amM) : At cr2 d 268 14 [] [302, 0, 71, x3] μ = amAld μ 302 (w32 (x3 + 1)) (fun v1 => bnd (RD cr2 d 111 [0, v1] μ) (fun v2 μ1 => amAld μ1 302 (w32 (x3 + 1)) (fun v3 => bnd (RD cr2 d 171 [71, v3] μ1) (fun v4 μ2 => (if v2 = v4 then At cr2 d 268 44 [] [302, 0, 71, x3] μ2 else some (0, μ2)))))) := (At_eq cr2 d 268 14 _ _ _).trans rfl
set_option maxRecDepth 20000 in
theorem B268_15 (d : Nat) (x3 : Int) (μ : amM) : At cr2 d 268 15 [] [302, 0, 71, x3] μ = amAld μ 302 (w32 (x3 + 1)) (fun v1 => amAld μ 302 (w32 (x3 + 2)) (fun v2 => amAld μ 302 (w32 (x3 + 3)) (fun v3 => amAld μ 302 (w32 (x3 + 4)) (fun v4 => amAld μ 302 (w32 (x3 + 5)) (fun v5 => bnd (RD cr2 d 112 [0, v1, v2, v3, v4, v5] μ) (fun v6 μ1 => amAld μ1 302 (w32 (x3 + 1)) (fun v7 => amAld μ1 302 (w32 (x3 + 2)) (fun v8 => amAld μ1 302 (w32 (x3 + 3)) (fun v9 => amAld μ1 302 (w32 (x3 + 4)) (fun v10 => amAld μ1 302 (w32 (x3 + 5)) (fun v11 => bnd (RD cr2 d 173 [71, v7, v8, v9, v10, v11] μ1) (fun v12 μ2 => (if v6 = v12 then At cr2 d 268 44 [] [302, 0, 71, x3] μ2 else some (0, μ2)))))))))))))) := (At_eq cr2 d 268 15 _ _ _).trans rfl
set_option maxRecDepth 20000 in
theorem B268_16 (d : Nat) (x3 : Int) (μ : amM) : At cr2 d 268 16 [] [302, 0, 71, x3] μ = amAld μ 302 (w32 (x3 + 1)) (fun v1 => amAld μ 302 (w32 (x3 + 2)) (fun v2 => amAld μ 302 (w32 (x3 + 3)) (fun v3 => amAld μ 302 (w32 (x3 + 4)) (fun v4 => bnd (RD cr2 d 113 [0, v1, v2, v3, v4] μ) (fun v5 μ1 => amAld μ1 302 (w32 (x3 + 1)) (fun v6 => amAld μ1 302 (w32 (x3 + 2)) (fun v7 => amAld μ1 302 (w32 (x3 + 3)) (fun v8 => amAld μ1 302 (w32 (x3 + 4)) (fun v9 => bnd (RD cr2 d 210 [71, v6, v7, v8, v9] μ1) (fun v10 μ2 => (if v5 = v10 then At cr2 d 268 44 [] [302, 0, 71, x3] μ2 else some (0, μ2)))))))))))) := (At_eq cr2 d 268 16 _ _ _).trans rfl
set_option maxRecDepth 20000 in
theorem B268_17 (d : Nat) (x3 : Int) (μ : amM) : At cr2 d 268 17 [] [302, 0, 71, x3] μ = amAld μ 302 (w32 (x3 + 1)) (fun v1 => amAld μ 302 (w32 (x3 + 2)) (fun v2 => amAld μ 302 (w32 (x3 + 3)) (fun v3 => bnd (RD cr2 d 114 [0, v1, v2, v3] μ) (fun v4 μ1 => amAld μ1 302 (w32 (x3 + 1)) (fun v5 => amAld μ1 302 (w32 (x3 + 2)) (fun v6 => amAld μ1 302 (w32 (x3 + 3)) (fun v7 => bnd (RD cr2 d 217 [71, v5, v6, v7] μ1) (fun v8 μ2 => (if v4 = v8 then At cr2 d 268 44 [] [302, 0, 71, x3] μ2 else some (0, μ2)))))))))) := (At_eq cr2 d 268 17 _ _ _).trans rfl
set_option maxRecDepth 20000 in
theorem B268_18 (d : Nat) (x3 : Int) (μ : amM) : At cr2 d 268 18 [] [302, 0, 71, x3] μ = bnd (RD cr2 d 115 [0] μ) (fun v1 μ1 => bnd (RD cr2 d 211 [71] μ1) (fun v2 μ2 => (if v1 = v2 then At cr2 d 268 44 [] [302, 0, 71, x3] μ2 else some (0, μ2)))) := (At_eq cr2 d 268 18 _ _ _).trans rfl
set_option maxRecDepth 20000 in
theorem B268_19 (d : Nat) (x3 : Int) (μ : amM) : At cr2 d 268 19 [] [302, 0, 71, x3] μ = amAld μ 302 (w32 (x3 + 1)) (fun v1 => bnd (RD cr2 d 116 [0, v1] μ) (fun v2 μ1 => amAld μ1 302 (w32 (x3 + 1)) (fun v3 => bnd (RD cr2 d 221 [71, v3] μ1) (fun v4 μ2 => (if (if v2 < v4 then (-1) else if v2 = v4 then 0 else 1) = 0 then At cr2 d 268 44 [] [302, 0, 71, x3] μ2 else some (0, μ2)))))) := (At_eq cr2 d 268 19 _ _ _).trans rfl
set_option maxRecDepth 20000 in
theorem B268_20 (d : Nat) (x3 : Int) (μ : amM) : At cr2 d 268 20 [] [302, 0, 71, x3] μ = amAld μ 302 (w32 (x3 + 1)) (fun v1 => bnd (RD cr2 d 117 [0, v1] μ) (fun v2 μ1 => amAld μ1 302 (w32 (x3 + 1)) (fun v3 => bnd (RD cr2 d 222 [71, v3] μ1) (fun v4 μ2 => (if (if v2 < v4 then (-1) else if v2 = v4 then 0 else 1) = 0 then At cr2 d 268 44 [] [302, 0, 71, x3] μ2 else some (0, μ2)))))) := (At_eq cr2 d 268 20 _ _ _).trans rfl
set_option maxRecDepth 20000 in
theorem B268_21 (d : Nat) (x3 : Int) (μ : amM) : At cr2 d 268 21 [] [302, 0, 71, x3] μ = bnd (RD cr2 d 118 [0] μ) (fun v1 μ1 => bnd (RD cr2 d 226 [71] μ1) (fun v2 μ2 => (if (if v1 < v2 then (-1) else if v1 = v2 then 0 else 1) = 0 then At cr2 d 268 44 [] [302, 0, 71, x3] μ2 else some (0, μ2)))) := (At_eq cr2 d 268 21 _ _ _).trans rfl
set_option maxRecDepth 20000 in
theorem B268_22 (d : Nat) (x3 : Int) (μ : amM) : At cr2 d 268 22 [] [302, 0, 71, x3] μ = amAld μ 302 (w32 (x3 + 1)) (fun v1 => bnd (RD cr2 d 119 [0, v1] μ) (fun v2 μ1 => amAld μ1 302 (w32 (x3 + 1)) (fun v3 => bnd (RD cr2 d 253 [71, v3] μ1) (fun v4 μ2 => (if v2 = v4 then At cr2 d 268 44 [] [302, 0, 71, x3] μ2 else some (0, μ2)))))) := (At_eq cr2 d 268 22 _ _ _).trans rfl
set_option maxRecDepth 20000 in
theorem B268_23 (d : Nat) (x3 : Int) (μ : amM) : At cr2 d 268 23 [] [302, 0, 71, x3] μ = amAld μ 302 (w32 (x3 + 1)) (fun v1 => amAld μ 302 (w32 (x3 + 2)) (fun v2 => bnd (RD cr2 d 120 [0, v1, v2] μ) (fun v3 μ1 => amAld μ1 302 (w32 (x3 + 1)) (fun v4 => amAld μ1 302 (w32 (x3 + 2)) (fun v5 => bnd (RD cr2 d 231 [71, v4, v5] μ1) (fun v6 μ2 => (if v3 = v6 then At cr2 d 268 44 [] [302, 0, 71, x3] μ2 else some (0, μ2)))))))) := (At_eq cr2 d 268 23 _ _ _).trans rfl
set_option maxRecDepth 20000 in
theorem B268_24 (d : Nat) (x3 : Int) (μ : amM) : At cr2 d 268 24 [] [302, 0, 71, x3] μ = amAld μ 302 (w32 (x3 + 1)) (fun v1 => amAld μ 302 (w32 (x3 + 2)) (fun v2 => bnd (RD cr2 d 121 [0, v1, v2] μ) (fun v3 μ1 => amAld μ1 302 (w32 (x3 + 1)) (fun v4 => amAld μ1 302 (w32 (x3 + 2)) (fun v5 => bnd (RD cr2 d 233 [71, v4, v5] μ1) (fun v6 μ2 => (if v3 = v6 then At cr2 d 268 44 [] [302, 0, 71, x3] μ2 else some (0, μ2)))))))) := (At_eq cr2 d 268 24 _ _ _).trans rfl
set_option maxRecDepth 20000 in
theorem B268_25 (d : Nat) (x3 : Int) (μ : amM) : At cr2 d 268 25 [] [302, 0, 71, x3] μ = bnd (RD cr2 d 122 [0] μ) (fun v1 μ1 => bnd (RD cr2 d 234 [71] μ1) (fun v2 μ2 => (if v1 = v2 then At cr2 d 268 44 [] [302, 0, 71, x3] μ2 else some (0, μ2)))) := (At_eq cr2 d 268 25 _ _ _).trans rfl
set_option maxRecDepth 20000 in
theorem B268_26 (d : Nat) (x3 : Int) (μ : amM) : At cr2 d 268 26 [] [302, 0, 71, x3] μ = bnd (RD cr2 d 123 [0] μ) (fun v1 μ1 => bnd (RD cr2 d 235 [71] μ1) (fun v2 μ2 => (if v1 = v2 then At cr2 d 268 44 [] [302, 0, 71, x3] μ2 else some (0, μ2)))) := (At_eq cr2 d 268 26 _ _ _).trans rfl
set_option maxRecDepth 20000 in
theorem B268_27 (d : Nat) (x3 : Int) (μ : amM) : At cr2 d 268 27 [] [302, 0, 71, x3] μ = bnd (RD cr2 d 124 [0] μ) (fun v1 μ1 => bnd (RD cr2 d 236 [71] μ1) (fun v2 μ2 => (if v1 = v2 then At cr2 d 268 44 [] [302, 0, 71, x3] μ2 else some (0, μ2)))) := (At_eq cr2 d 268 27 _ _ _).trans rfl
set_option maxRecDepth 20000 in
theorem B268_28 (d : Nat) (x3 : Int) (μ : amM) : At cr2 d 268 28 [] [302, 0, 71, x3] μ = amAld μ 302 (w32 (x3 + 1)) (fun v1 => bnd (RD cr2 d 125 [0, v1] μ) (fun v2 μ1 => amAld μ1 302 (w32 (x3 + 1)) (fun v3 => bnd (RD cr2 d 237 [71, v3] μ1) (fun v4 μ2 => (if v2 = v4 then At cr2 d 268 44 [] [302, 0, 71, x3] μ2 else some (0, μ2)))))) := (At_eq cr2 d 268 28 _ _ _).trans rfl
set_option maxRecDepth 20000 in
theorem B268_29 (d : Nat) (x3 : Int) (μ : amM) : At cr2 d 268 29 [] [302, 0, 71, x3] μ = amAld μ 302 (w32 (x3 + 1)) (fun v1 => bnd (RD cr2 d 126 [0, v1] μ) (fun v2 μ1 => amAld μ1 302 (w32 (x3 + 1)) (fun v3 => bnd (RD cr2 d 239 [71, v3] μ1) (fun v4 μ2 => (if v2 = v4 then At cr2 d 268 44 [] [302, 0, 71, x3] μ2 else some (0, μ2)))))) := (At_eq cr2 d 268 29 _ _ _).trans rfl
set_option maxRecDepth 20000 in
theorem B268_30 (d : Nat) (x3 : Int) (μ : amM) : At cr2 d 268 30 [] [302, 0, 71, x3] μ = amAld μ 302 (w32 (x3 + 1)) (fun v1 => bnd (RD cr2 d 127 [0, v1] μ) (fun v2 μ1 => amAld μ1 302 (w32 (x3 + 1)) (fun v3 => bnd (RD cr2 d 240 [71, v3] μ1) (fun v4 μ2 => (if v2 = v4 then At cr2 d 268 44 [] [302, 0, 71, x3] μ2 else some (0, μ2)))))) := (At_eq cr2 d 268 30 _ _ _).trans rfl
set_option maxRecDepth 20000 in
theorem B268_31 (d : Nat) (x3 : Int) (μ : amM) : At cr2 d 268 31 [] [302, 0, 71, x3] μ = amAld μ 302 (w32 (x3 + 1)) (fun v1 => amAld μ 302 (w32 (x3 + 2)) (fun v2 => amAld μ 302 (w32 (x3 + 3)) (fun v3 => bnd (RD cr2 d 128 [0, v1, v2, v3] μ) (fun v4 μ1 => amAld μ1 302 (w32 (x3 + 1)) (fun v5 => amAld μ1 302 (w32 (x3 + 2)) (fun v6 => amAld μ1 302 (w32 (x3 + 3)) (fun v7 => bnd (RD cr2 d 247 [71, v5, v6, v7] μ1) (fun v8 μ2 => (if v4 = v8 then At cr2 d 268 44 [] [302, 0, 71, x3] μ2 else some (0, μ2)))))))))) := (At_eq cr2 d 268 31 _ _ _).trans rfl
set_option maxRecDepth 20000 in
theorem B268_32 (d : Nat) (x3 : Int) (μ : amM) : At cr2 d 268 32 [] [302, 0, 71, x3] μ = amAld μ 302 (w32 (x3 + 1)) (fun v1 => bnd (RD cr2 d 129 [0, v1] μ) (fun v2 μ1 => amAld μ1 302 (w32 (x3 + 1)) (fun v3 => bnd (RD cr2 d 248 [71, v3] μ1) (fun v4 μ2 => (if v2 = v4 then At cr2 d 268 44 [] [302, 0, 71, x3] μ2 else some (0, μ2)))))) := (At_eq cr2 d 268 32 _ _ _).trans rfl
set_option maxRecDepth 20000 in
theorem B268_33 (d : Nat) (x3 : Int) (μ : amM) : At cr2 d 268 33 [] [302, 0, 71, x3] μ = amAld μ 302 (w32 (x3 + 1)) (fun v1 => amAld μ 302 (w32 (x3 + 2)) (fun v2 => amAld μ 302 (w32 (x3 + 3)) (fun v3 => bnd (RD cr2 d 130 [0, v1, v2, v3] μ) (fun v4 μ1 => amAld μ1 302 (w32 (x3 + 1)) (fun v5 => amAld μ1 302 (w32 (x3 + 2)) (fun v6 => amAld μ1 302 (w32 (x3 + 3)) (fun v7 => bnd (RD cr2 d 250 [71, v5, v6, v7] μ1) (fun v8 μ2 => (if v4 = v8 then At cr2 d 268 44 [] [302, 0, 71, x3] μ2 else some (0, μ2)))))))))) := (At_eq cr2 d 268 33 _ _ _).trans rfl
set_option maxRecDepth 20000 in
theorem B268_34 (d : Nat) (x3 : Int) (μ : amM) : At cr2 d 268 34 [] [302, 0, 71, x3] μ = amAld μ 302 (w32 (x3 + 1)) (fun v1 => amAld μ 302 (w32 (x3 + 2)) (fun v2 => amAld μ 302 (w32 (x3 + 3)) (fun v3 => bnd (RD cr2 d 131 [0, v1, v2, v3] μ) (fun v4 μ1 => amAld μ1 302 (w32 (x3 + 1)) (fun v5 => amAld μ1 302 (w32 (x3 + 2)) (fun v6 => amAld μ1 302 (w32 (x3 + 3)) (fun v7 => bnd (RD cr2 d 251 [71, v5, v6, v7] μ1) (fun v8 μ2 => (if v4 = v8 then At cr2 d 268 44 [] [302, 0, 71, x3] μ2 else some (0, μ2)))))))))) := (At_eq cr2 d 268 34 _ _ _).trans rfl
set_option maxRecDepth 20000 in
theorem B268_35 (d : Nat) (x3 : Int) (μ : amM) : At cr2 d 268 35 [] [302, 0, 71, x3] μ = amAld μ 302 (w32 (x3 + 1)) (fun v1 => amAld μ 302 (w32 (x3 + 2)) (fun v2 => amAld μ 302 (w32 (x3 + 3)) (fun v3 => amAld μ 302 (w32 (x3 + 4)) (fun v4 => amAld μ 302 (w32 (x3 + 5)) (fun v5 => bnd (RD cr2 d 132 [0, v1, v2, v3, v4, v5] μ) (fun v6 μ1 => amAld μ1 302 (w32 (x3 + 1)) (fun v7 => amAld μ1 302 (w32 (x3 + 2)) (fun v8 => amAld μ1 302 (w32 (x3 + 3)) (fun v9 => amAld μ1 302 (w32 (x3 + 4)) (fun v10 => amAld μ1 302 (w32 (x3 + 5)) (fun v11 => bnd (RD cr2 d 252 [71, v7, v8, v9, v10, v11] μ1) (fun v12 μ2 => (if v6 = v12 then At cr2 d 268 44 [] [302, 0, 71, x3] μ2 else some (0, μ2)))))))))))))) := (At_eq cr2 d 268 35 _ _ _).trans rfl
set_option maxRecDepth 20000 in
theorem B268_36 (d : Nat) (x3 : Int) (μ : amM) : At cr2 d 268 36 [] [302, 0, 71, x3] μ = amAld μ 302 (w32 (x3 + 1)) (fun v1 => bnd (RD cr2 d 133 [0, v1] μ) (fun v2 μ1 => amAld μ1 302 (w32 (x3 + 1)) (fun v3 => bnd (RD cr2 d 256 [71, v3] μ1) (fun v4 μ2 => (if v2 = v4 then At cr2 d 268 44 [] [302, 0, 71, x3] μ2 else some (0, μ2)))))) := (At_eq cr2 d 268 36 _ _ _).trans rfl
set_option maxRecDepth 20000 in
theorem B268_37 (d : Nat) (x3 : Int) (μ : amM) : At cr2 d 268 37 [] [302, 0, 71, x3] μ = amAld μ 302 (w32 (x3 + 1)) (fun v1 => bnd (RD cr2 d 134 [0, v1] μ) (fun v2 μ1 => amAld μ1 302 (w32 (x3 + 1)) (fun v3 => bnd (RD cr2 d 258 [71, v3] μ1) (fun v4 μ2 => (if v2 = v4 then At cr2 d 268 44 [] [302, 0, 71, x3] μ2 else some (0, μ2)))))) := (At_eq cr2 d 268 37 _ _ _).trans rfl
set_option maxRecDepth 20000 in
theorem B268_38 (d : Nat) (x3 : Int) (μ : amM) : At cr2 d 268 38 [] [302, 0, 71, x3] μ = bnd (RD cr2 d 135 [0] μ) (fun v1 μ1 => bnd (RD cr2 d 259 [71] μ1) (fun v2 μ2 => (if v1 = v2 then At cr2 d 268 44 [] [302, 0, 71, x3] μ2 else some (0, μ2)))) := (At_eq cr2 d 268 38 _ _ _).trans rfl
set_option maxRecDepth 20000 in
theorem B268_39 (d : Nat) (x3 : Int) (μ : amM) : At cr2 d 268 39 [] [302, 0, 71, x3] μ = bnd (RD cr2 d 136 [0] μ) (fun v1 μ1 => bnd (RD cr2 d 260 [71] μ1) (fun v2 μ2 => (if v1 = v2 then At cr2 d 268 44 [] [302, 0, 71, x3] μ2 else some (0, μ2)))) := (At_eq cr2 d 268 39 _ _ _).trans rfl
set_option maxRecDepth 20000 in
theorem B268_40 (d : Nat) (x3 : Int) (μ : amM) : At cr2 d 268 40 [] [302, 0, 71, x3] μ = amAld μ 302 (w32 (x3 + 1)) (fun v1 => bnd (RD cr2 d 137 [0, v1] μ) (fun v2 μ1 => amAld μ1 302 (w32 (x3 + 1)) (fun v3 => bnd (RD cr2 d 261 [71, v3] μ1) (fun v4 μ2 => (if v2 = v4 then At cr2 d 268 44 [] [302, 0, 71, x3] μ2 else some (0, μ2)))))) := (At_eq cr2 d 268 40 _ _ _).trans rfl
set_option maxRecDepth 20000 in
theorem B268_41 (d : Nat) (x3 : Int) (μ : amM) : At cr2 d 268 41 [] [302, 0, 71, x3] μ = bnd (RD cr2 d 138 [0] μ) (fun v1 μ1 => bnd (RD cr2 d 262 [71] μ1) (fun v2 μ2 => (if v1 = v2 then At cr2 d 268 44 [] [302, 0, 71, x3] μ2 else some (0, μ2)))) := (At_eq cr2 d 268 41 _ _ _).trans rfl
set_option maxRecDepth 20000 in
theorem B268_42 (d : Nat) (x3 : Int) (μ : amM) : At cr2 d 268 42 [] [302, 0, 71, x3] μ = amAld μ 302 (w32 (x3 + 1)) (fun v1 => bnd (RD cr2 d 139 [0, v1] μ) (fun v2 μ1 => amAld μ1 302 (w32 (x3 + 1)) (fun v3 => bnd (RD cr2 d 263 [71, v3] μ1) (fun v4 μ2 => (if v2 = v4 then At cr2 d 268 44 [] [302, 0, 71, x3] μ2 else some (0, μ2)))))) := (At_eq cr2 d 268 42 _ _ _).trans rfl
set_option maxRecDepth 20000 in
theorem B268_43 (d : Nat) (x3 : Int) (μ : amM) : At cr2 d 268 43 [] [302, 0, 71, x3] μ = amAld μ 302 (w32 (x3 + 1)) (fun v1 => bnd (RD cr2 d 140 [0, v1] μ) (fun v2 μ1 => amAld μ1 302 (w32 (x3 + 1)) (fun v3 => bnd (RD cr2 d 264 [71, v3] μ1) (fun v4 μ2 => (if v2 = v4 then At cr2 d 268 44 [] [302, 0, 71, x3] μ2 else some (0, μ2)))))) := (At_eq cr2 d 268 43 _ _ _).trans rfl
set_option maxRecDepth 20000 in
theorem B268_44 (d : Nat) (x3 : Int) (μ : amM) : At cr2 d 268 44 [] [302, 0, 71, x3] μ = At cr2 d 268 1 [] [302, 0, 71, (w32 (x3 + 6))] μ := (At_eq cr2 d 268 44 _ _ _).trans rfl
set_option maxRecDepth 20000 in
theorem B268_45 (d : Nat) (μ : amM) : At cr2 d 268 45 [] [0, 0, 0, 0] μ = some (1, μ) := (At_eq cr2 d 268 45 _ _ _).trans rfl
