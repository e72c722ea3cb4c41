/-! ===== THE PURE PART: tools ===== -/
theorem w32_i {x : Int} (h1 : -2147483648 ≤ x) (h2 : x < 2147483648) : w32 x = x := w32_id ⟨by omega, by omega⟩
theorem bnd_s (x : Int) (μ : amM) (f : Int → amM → amR) : bnd (some (x, μ)) f = f x μ := rfl
theorem rd_p {c n : Nat} {μ : amM} {i : Int} {f : Int → amR} (h1 : 0 ≤ i) (h2 : i < (n : Int)) : rd c n μ i f = f (μ c i.toNat) := if_pos ⟨h1, h2⟩
theorem wr_p {c n : Nat} {μ : amM} {i v : Int} {f : amM → amR} (h1 : 0 ≤ i) (h2 : i < (n : Int)) : wr c n μ i v f = f (up μ c i.toNat v) := if_pos ⟨h1, h2⟩
theorem rb_0 (μ : amM) : rb 0 μ = some (0, μ) := rfl
theorem rb_1 (μ : amM) : rb 1 μ = some (1, μ) := rfl
theorem up_eq (μ : amM) (c i : Nat) (v : Int) : up μ c i v c i = v := by unfold up; simp
theorem up_ne (μ : amM) (c i : Nat) (v : Int) {c' i' : Nat} (h : c' ≠ c ∨ i' ≠ i) : up μ c i v c' i' = μ c' i' := by
  unfold up
  by_cases e : c' = c
  · subst e
    rw [if_pos rfl, if_neg (h.resolve_left (fun q => q rfl))]
  · rw [if_neg e]
theorem up_row (μ : amM) (c i : Nat) (v : Int) {c' : Nat} (h : c' ≠ c) : up μ c i v c' = μ c' := by
  unfold up
  rw [if_neg h]
/-- a boolean as it answers -/
def b2i (p : Prop) [Decidable p] : Int := if p then 1 else 0
theorem b2i_0 {p : Prop} [Decidable p] (h : ¬ p) : b2i p = 0 := if_neg h
theorem b2i_1 {p : Prop} [Decidable p] (h : p) : b2i p = 1 := if_pos h
theorem b2i_eq0 {p : Prop} [Decidable p] : b2i p = 0 ↔ ¬ p := by
  unfold b2i
  split <;> simp_all
theorem rb_b {p : Prop} [Decidable p] (μ : amM) : rb (b2i p) μ = some (b2i p, μ) := by
  unfold b2i
  split <;> rfl
/-- the mark k of a code -/
def mk (c : Int) (k : Nat) : Int := c / (4 : Int) ^ k % 4
def ws (c : Int) (k : Nat) (s : Int) : Int := c + (s - mk c k) * (4 : Int) ^ k
def hc (h : Int) : Int := h / 27 + 4 * (h / 9 % 3) + 16 * (h / 3 % 3) + 64 * (h % 3)
def al1 (a b : Int) (k : Nat) : Int := if mk a k < 3 ∧ mk a k = mk b k then 1 else 0
def alk (a b : Int) : Int := al1 a b 0 + al1 a b 1 + al1 a b 2 + al1 a b 3
theorem fin_all {P : Int → Prop} {n : Nat} (h : ∀ i : Fin n, P ((i.val : Nat) : Int)) {x : Int} (h1 : 0 ≤ x) (h2 : x < (n : Int)) : P x := by
  obtain ⟨k, rfl⟩ := Int.eq_ofNat_of_zero_le h1
  exact h ⟨k, by omega⟩
theorem sortAt_n : ((List.range 256).all fun c => (List.range 4).all fun k => decide (bAnd (bShr (c : Int) (w32 (2 * (k : Int)))) 3 = mk c k)) = true := by decide +kernel
theorem withSort_n : ((List.range 256).all fun c => (List.range 4).all fun k => (List.range 4).all fun s => decide (bOr (bAnd (c : Int) (bXor (bShl 3 (w32 (2 * (k : Int)))) (-1))) (bShl (s : Int) (w32 (2 * (k : Int)))) = ws c k s)) = true := by decide +kernel
theorem codeOf_n : ((List.range 81).all fun h => decide (bOr (bOr (bOr (w32 ((h : Int).tdiv 27)) (bShl ((w32 ((h : Int).tdiv 9)).tmod 3) 2)) (bShl ((w32 ((h : Int).tdiv 3)).tmod 3) 4)) (bShl ((h : Int).tmod 3) 6) = hc h)) = true := by decide +kernel
def unl (a b : Int) : Int := (1 - al1 a b 0) + 4 * (1 - al1 a b 1) + 16 * (1 - al1 a b 2) + 64 * (1 - al1 a b 3)
theorem alike_n0 : ((List.range 16).all fun i => (List.range 256).all fun b => decide (bAnd (bOr (bOr (bXor ((0 + i : Nat) : Int) (b : Int)) (bShr (bXor ((0 + i : Nat) : Int) (b : Int)) 1)) (bAnd ((0 + i : Nat) : Int) (bShr ((0 + i : Nat) : Int) 1))) 85 = unl ((0 + i : Nat) : Int) b)) = true := by decide +kernel
theorem alike_n1 : ((List.range 16).all fun i => (List.range 256).all fun b => decide (bAnd (bOr (bOr (bXor ((16 + i : Nat) : Int) (b : Int)) (bShr (bXor ((16 + i : Nat) : Int) (b : Int)) 1)) (bAnd ((16 + i : Nat) : Int) (bShr ((16 + i : Nat) : Int) 1))) 85 = unl ((16 + i : Nat) : Int) b)) = true := by decide +kernel
theorem alike_n2 : ((List.range 16).all fun i => (List.range 256).all fun b => decide (bAnd (bOr (bOr (bXor ((32 + i : Nat) : Int) (b : Int)) (bShr (bXor ((32 + i : Nat) : Int) (b : Int)) 1)) (bAnd ((32 + i : Nat) : Int) (bShr ((32 + i : Nat) : Int) 1))) 85 = unl ((32 + i : Nat) : Int) b)) = true := by decide +kernel
theorem alike_n3 : ((List.range 16).all fun i => (List.range 256).all fun b => decide (bAnd (bOr (bOr (bXor ((48 + i : Nat) : Int) (b : Int)) (bShr (bXor ((48 + i : Nat) : Int) (b : Int)) 1)) (bAnd ((48 + i : Nat) : Int) (bShr ((48 + i : Nat) : Int) 1))) 85 = unl ((48 + i : Nat) : Int) b)) = true := by decide +kernel
theorem alike_n4 : ((List.range 16).all fun i => (List.range 256).all fun b => decide (bAnd (bOr (bOr (bXor ((64 + i : Nat) : Int) (b : Int)) (bShr (bXor ((64 + i : Nat) : Int) (b : Int)) 1)) (bAnd ((64 + i : Nat) : Int) (bShr ((64 + i : Nat) : Int) 1))) 85 = unl ((64 + i : Nat) : Int) b)) = true := by decide +kernel
theorem alike_n5 : ((List.range 16).all fun i => (List.range 256).all fun b => decide (bAnd (bOr (bOr (bXor ((80 + i : Nat) : Int) (b : Int)) (bShr (bXor ((80 + i : Nat) : Int) (b : Int)) 1)) (bAnd ((80 + i : Nat) : Int) (bShr ((80 + i : Nat) : Int) 1))) 85 = unl ((80 + i : Nat) : Int) b)) = true := by decide +kernel
theorem alike_n6 : ((List.range 16).all fun i => (List.range 256).all fun b => decide (bAnd (bOr (bOr (bXor ((96 + i : Nat) : Int) (b : Int)) (bShr (bXor ((96 + i : Nat) : Int) (b : Int)) 1)) (bAnd ((96 + i : Nat) : Int) (bShr ((96 + i : Nat) : Int) 1))) 85 = unl ((96 + i : Nat) : Int) b)) = true := by decide +kernel
theorem alike_n7 : ((List.range 16).all fun i => (List.range 256).all fun b => decide (bAnd (bOr (bOr (bXor ((112 + i : Nat) : Int) (b : Int)) (bShr (bXor ((112 + i : Nat) : Int) (b : Int)) 1)) (bAnd ((112 + i : Nat) : Int) (bShr ((112 + i : Nat) : Int) 1))) 85 = unl ((112 + i : Nat) : Int) b)) = true := by decide +kernel
theorem alike_n8 : ((List.range 16).all fun i => (List.range 256).all fun b => decide (bAnd (bOr (bOr (bXor ((128 + i : Nat) : Int) (b : Int)) (bShr (bXor ((128 + i : Nat) : Int) (b : Int)) 1)) (bAnd ((128 + i : Nat) : Int) (bShr ((128 + i : Nat) : Int) 1))) 85 = unl ((128 + i : Nat) : Int) b)) = true := by decide +kernel
theorem alike_n9 : ((List.range 16).all fun i => (List.range 256).all fun b => decide (bAnd (bOr (bOr (bXor ((144 + i : Nat) : Int) (b : Int)) (bShr (bXor ((144 + i : Nat) : Int) (b : Int)) 1)) (bAnd ((144 + i : Nat) : Int) (bShr ((144 + i : Nat) : Int) 1))) 85 = unl ((144 + i : Nat) : Int) b)) = true := by decide +kernel
theorem alike_n10 : ((List.range 16).all fun i => (List.range 256).all fun b => decide (bAnd (bOr (bOr (bXor ((160 + i : Nat) : Int) (b : Int)) (bShr (bXor ((160 + i : Nat) : Int) (b : Int)) 1)) (bAnd ((160 + i : Nat) : Int) (bShr ((160 + i : Nat) : Int) 1))) 85 = unl ((160 + i : Nat) : Int) b)) = true := by decide +kernel
theorem alike_n11 : ((List.range 16).all fun i => (List.range 256).all fun b => decide (bAnd (bOr (bOr (bXor ((176 + i : Nat) : Int) (b : Int)) (bShr (bXor ((176 + i : Nat) : Int) (b : Int)) 1)) (bAnd ((176 + i : Nat) : Int) (bShr ((176 + i : Nat) : Int) 1))) 85 = unl ((176 + i : Nat) : Int) b)) = true := by decide +kernel
theorem alike_n12 : ((List.range 16).all fun i => (List.range 256).all fun b => decide (bAnd (bOr (bOr (bXor ((192 + i : Nat) : Int) (b : Int)) (bShr (bXor ((192 + i : Nat) : Int) (b : Int)) 1)) (bAnd ((192 + i : Nat) : Int) (bShr ((192 + i : Nat) : Int) 1))) 85 = unl ((192 + i : Nat) : Int) b)) = true := by decide +kernel
theorem alike_n13 : ((List.range 16).all fun i => (List.range 256).all fun b => decide (bAnd (bOr (bOr (bXor ((208 + i : Nat) : Int) (b : Int)) (bShr (bXor ((208 + i : Nat) : Int) (b : Int)) 1)) (bAnd ((208 + i : Nat) : Int) (bShr ((208 + i : Nat) : Int) 1))) 85 = unl ((208 + i : Nat) : Int) b)) = true := by decide +kernel
theorem alike_n14 : ((List.range 16).all fun i => (List.range 256).all fun b => decide (bAnd (bOr (bOr (bXor ((224 + i : Nat) : Int) (b : Int)) (bShr (bXor ((224 + i : Nat) : Int) (b : Int)) 1)) (bAnd ((224 + i : Nat) : Int) (bShr ((224 + i : Nat) : Int) 1))) 85 = unl ((224 + i : Nat) : Int) b)) = true := by decide +kernel
theorem alike_n15 : ((List.range 16).all fun i => (List.range 256).all fun b => decide (bAnd (bOr (bOr (bXor ((240 + i : Nat) : Int) (b : Int)) (bShr (bXor ((240 + i : Nat) : Int) (b : Int)) 1)) (bAnd ((240 + i : Nat) : Int) (bShr ((240 + i : Nat) : Int) 1))) 85 = unl ((240 + i : Nat) : Int) b)) = true := by decide +kernel
