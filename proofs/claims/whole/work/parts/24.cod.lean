/-! ===== codes ===== -/
def bitx (x0 : Int) : Int := (bAnd (w32 ((w32 ((bAnd (w32 ((w32 ((bAnd (w32 (x0 - (bAnd (bUshr x0 1) 1431655765))) 858993459) + (bAnd (bUshr (w32 (x0 - (bAnd (bUshr x0 1) 1431655765))) 2) 858993459))) + (bUshr (w32 ((bAnd (w32 (x0 - (bAnd (bUshr x0 1) 1431655765))) 858993459) + (bAnd (bUshr (w32 (x0 - (bAnd (bUshr x0 1) 1431655765))) 2) 858993459))) 4))) 252645135) + (bUshr (bAnd (w32 ((w32 ((bAnd (w32 (x0 - (bAnd (bUshr x0 1) 1431655765))) 858993459) + (bAnd (bUshr (w32 (x0 - (bAnd (bUshr x0 1) 1431655765))) 2) 858993459))) + (bUshr (w32 ((bAnd (w32 (x0 - (bAnd (bUshr x0 1) 1431655765))) 858993459) + (bAnd (bUshr (w32 (x0 - (bAnd (bUshr x0 1) 1431655765))) 2) 858993459))) 4))) 252645135) 8))) + (bUshr (w32 ((bAnd (w32 ((w32 ((bAnd (w32 (x0 - (bAnd (bUshr x0 1) 1431655765))) 858993459) + (bAnd (bUshr (w32 (x0 - (bAnd (bUshr x0 1) 1431655765))) 2) 858993459))) + (bUshr (w32 ((bAnd (w32 (x0 - (bAnd (bUshr x0 1) 1431655765))) 858993459) + (bAnd (bUshr (w32 (x0 - (bAnd (bUshr x0 1) 1431655765))) 2) 858993459))) 4))) 252645135) + (bUshr (bAnd (w32 ((w32 ((bAnd (w32 (x0 - (bAnd (bUshr x0 1) 1431655765))) 858993459) + (bAnd (bUshr (w32 (x0 - (bAnd (bUshr x0 1) 1431655765))) 2) 858993459))) + (bUshr (w32 ((bAnd (w32 (x0 - (bAnd (bUshr x0 1) 1431655765))) 858993459) + (bAnd (bUshr (w32 (x0 - (bAnd (bUshr x0 1) 1431655765))) 2) 858993459))) 4))) 252645135) 8))) 16))) 63)
theorem bits_e (d : Nat) (x0 : Int) (μ : amM) : RD cr2 (d + 1) 265 [x0] μ = some (bitx x0, μ) := M265 d x0 μ
theorem sortAt_e (d : Nat) {c k : Int} (μ : amM) (h1 : 0 ≤ c ∧ c < 256) (h2 : 0 ≤ k ∧ k < 4) : RD cr2 (d + 1) 7 [c, k] μ = some (mk c k.toNat, μ) := by
  rw [M7]
  obtain ⟨c, rfl⟩ := Int.eq_ofNat_of_zero_le h1.1
  obtain ⟨k, rfl⟩ := Int.eq_ofNat_of_zero_le h2.1
  have h := of_decide_eq_true (List.all_eq_true.mp (List.all_eq_true.mp sortAt_n c (List.mem_range.mpr (by omega))) k (List.mem_range.mpr (by omega)))
  rw [h, Int.toNat_natCast]
theorem withSort_e (d : Nat) {c k s : Int} (μ : amM) (h1 : 0 ≤ c ∧ c < 256) (h2 : 0 ≤ k ∧ k < 4) (h3 : 0 ≤ s ∧ s < 4) : RD cr2 (d + 1) 8 [c, k, s] μ = some (ws c k.toNat s, μ) := by
  rw [M8]
  obtain ⟨c, rfl⟩ := Int.eq_ofNat_of_zero_le h1.1
  obtain ⟨k, rfl⟩ := Int.eq_ofNat_of_zero_le h2.1
  obtain ⟨s, rfl⟩ := Int.eq_ofNat_of_zero_le h3.1
  have h := of_decide_eq_true (List.all_eq_true.mp (List.all_eq_true.mp (List.all_eq_true.mp withSort_n c (List.mem_range.mpr (by omega))) k (List.mem_range.mpr (by omega))) s (List.mem_range.mpr (by omega)))
  rw [h, Int.toNat_natCast]
theorem codeOf_e (d : Nat) {h : Int} (μ : amM) (h1 : 0 ≤ h ∧ h < 81) : RD cr2 (d + 1) 6 [h] μ = some (hc h, μ) := by
  rw [M6]
  obtain ⟨h, rfl⟩ := Int.eq_ofNat_of_zero_le h1.1
  have h := of_decide_eq_true (List.all_eq_true.mp codeOf_n h (List.mem_range.mpr (by omega)))
  rw [h]
theorem alike_n {a b : Int} (h1 : 0 ≤ a ∧ a < 256) (h2 : 0 ≤ b ∧ b < 256) : bAnd (bOr (bOr (bXor a b) (bShr (bXor a b) 1)) (bAnd a (bShr a 1))) 85 = unl a b := by
  obtain ⟨a, rfl⟩ := Int.eq_ofNat_of_zero_le h1.1
  obtain ⟨b, rfl⟩ := Int.eq_ofNat_of_zero_le h2.1
  have hb : b ∈ List.range 256 := List.mem_range.mpr (by omega)
  have key : ∀ k, k < 16 → ((List.range 16).all fun i => (List.range 256).all fun b => decide (bAnd (bOr (bOr (bXor ((16 * k + i : Nat) : Int) (b : Int)) (bShr (bXor ((16 * k + i : Nat) : Int) (b : Int)) 1)) (bAnd ((16 * k + i : Nat) : Int) (bShr ((16 * k + i : Nat) : Int) 1))) 85 = unl ((16 * k + i : Nat) : Int) b)) = true := by
    intro k hk
    match k, hk with
    | 0, _ => exact alike_n0
    | 1, _ => exact alike_n1
    | 2, _ => exact alike_n2
    | 3, _ => exact alike_n3
    | 4, _ => exact alike_n4
    | 5, _ => exact alike_n5
    | 6, _ => exact alike_n6
    | 7, _ => exact alike_n7
    | 8, _ => exact alike_n8
    | 9, _ => exact alike_n9
    | 10, _ => exact alike_n10
    | 11, _ => exact alike_n11
    | 12, _ => exact alike_n12
    | 13, _ => exact alike_n13
    | 14, _ => exact alike_n14
    | 15, _ => exact alike_n15
    | k + 16, hk => omega
  have h := of_decide_eq_true (List.all_eq_true.mp (List.all_eq_true.mp (key (a / 16) (by omega)) (a % 16) (List.mem_range.mpr (by omega))) b hb)
  rw [show 16 * (a / 16) + a % 16 = a by omega] at h
  exact h
theorem al1_01 (a b : Int) (k : Nat) : al1 a b k = 0 ∨ al1 a b k = 1 := by
  unfold al1
  split
  · exact Or.inr rfl
  · exact Or.inl rfl
theorem alike_bits (a b : Int) : w32 (4 - bitx (unl a b)) = alk a b := by
  unfold unl alk
  rcases al1_01 a b 0 with h0 | h0 <;> rcases al1_01 a b 1 with h1 | h1 <;> rcases al1_01 a b 2 with h2 | h2 <;> rcases al1_01 a b 3 with h3 | h3 <;> rw [h0, h1, h2, h3] <;> decide +kernel
theorem alikeOf_e (d : Nat) {a b : Int} (μ : amM) (h1 : 0 ≤ a ∧ a < 256) (h2 : 0 ≤ b ∧ b < 256) : RD cr2 (d + 2) 11 [a, b] μ = some (alk a b, μ) := by
  rw [M11, alike_n h1 h2, bits_e, bnd_s, alike_bits]
theorem mk_R (c : Int) (k : Nat) : 0 ≤ mk c k ∧ mk c k < 4 := by
  unfold mk
  omega
theorem alk_R (a b : Int) : 0 ≤ alk a b ∧ alk a b ≤ 4 := by
  unfold alk
  rcases al1_01 a b 0 with h0 | h0 <;> rcases al1_01 a b 1 with h1 | h1 <;> rcases al1_01 a b 2 with h2 | h2 <;> rcases al1_01 a b 3 with h3 | h3 <;> rw [h0, h1, h2, h3] <;> decide
theorem hc_R {h : Int} (h1 : 0 ≤ h ∧ h < 81) : 0 ≤ hc h ∧ hc h < 256 := by
  unfold hc
  omega
theorem max_e (d : Nat) (a b : Int) (μ : amM) : RD cr2 (d + 1) 266 [a, b] μ = some (max a b, μ) := by
  rw [M266]
  by_cases h : a < b
  · rw [if_pos h, B266_1, B266_2, show max a b = b by omega]
  · rw [if_neg h, B266_2, show max a b = a by omega]
theorem min_e (d : Nat) (a b : Int) (μ : amM) : RD cr2 (d + 1) 267 [a, b] μ = some (min a b, μ) := by
  rw [M267]
  by_cases h : b < a
  · rw [if_pos h, B267_1, B267_2, show min a b = b by omega]
  · rw [if_neg h, B267_2, show min a b = a by omega]
def numOf (c : Int) : Int := 27 * (mk c 0 % 3) + 9 * (mk c 1 % 3) + 3 * (mk c 2 % 3) + mk c 3 % 3
theorem numberOf_e (d : Nat) {c : Int} (μ : amM) (h1 : 0 ≤ c ∧ c < 256) : RD cr2 (d + 2) 9 [c] μ = some (numOf c, μ) := by
  have q0 := mk_R c 0
  have q1 := mk_R c 1
  have q2 := mk_R c 2
  have q3 := mk_R c 3
  have t : ∀ k, (mk c k).tmod 3 = mk c k % 3 := fun k => Int.tmod_eq_emod_of_nonneg (mk_R c k).1
  rw [M9, B9_1, if_pos (by decide), sortAt_e d μ h1 (by decide), bnd_s]
  rw [show (0 : Int).toNat = 0 from rfl, t, w32_i (x := 3 * 0) (by decide) (by decide), w32_i (by omega) (by omega), w32_i (x := 0 + 1) (by decide) (by decide)]
  rw [B9_1, if_pos (by decide), sortAt_e d μ h1 (by decide), bnd_s, show ((0 : Int) + 1).toNat = 1 from rfl, t, w32_i (x := 3 * _) (by omega) (by omega), w32_i (by omega) (by omega), w32_i (x := 0 + 1 + 1) (by decide) (by decide)]
  rw [B9_1, if_pos (by decide), sortAt_e d μ h1 (by decide), bnd_s, show ((0 : Int) + 1 + 1).toNat = 2 from rfl, t, w32_i (x := 3 * _) (by omega) (by omega), w32_i (by omega) (by omega), w32_i (x := 0 + 1 + 1 + 1) (by decide) (by decide)]
  rw [B9_1, if_pos (by decide), sortAt_e d μ h1 (by decide), bnd_s, show ((0 : Int) + 1 + 1 + 1).toNat = 3 from rfl, t, w32_i (x := 3 * _) (by omega) (by omega), w32_i (by omega) (by omega), w32_i (x := 0 + 1 + 1 + 1 + 1) (by decide) (by decide)]
  rw [B9_1, if_neg (by decide), B9_2]
  unfold numOf
  congr 2
  omega
def blk0 (c : Int) : Int := (if mk c 0 = 3 then 1 else 0) + 4 * (if mk c 1 = 3 then 1 else 0) + 16 * (if mk c 2 = 3 then 1 else 0) + 64 * (if mk c 3 = 3 then 1 else 0)
theorem blanks_n : ((List.range 256).all fun c => decide (bAnd (bAnd (c : Int) (bShr (c : Int) 1)) 85 = blk0 c)) = true := by decide +kernel
theorem blanksOf_e (d : Nat) {c : Int} (μ : amM) (h1 : 0 ≤ c ∧ c < 256) : RD cr2 (d + 1) 10 [c] μ = some (blk0 c, μ) := by
  rw [M10]
  obtain ⟨c, rfl⟩ := Int.eq_ofNat_of_zero_le h1.1
  have h := of_decide_eq_true (List.all_eq_true.mp blanks_n c (List.mem_range.mpr (by omega)))
  rw [h]
theorem mk_ws_n : ((List.range 256).all fun c => (List.range 4).all fun k => (List.range 4).all fun s => (List.range 4).all fun j => decide (mk (ws (c : Int) k (s : Int)) j = (if j = k then (s : Int) else mk (c : Int) j) ∧ 0 ≤ ws (c : Int) k (s : Int) ∧ ws (c : Int) k (s : Int) < 256)) = true := by decide +kernel
theorem mk_ws {c s : Int} {k j : Nat} (h1 : 0 ≤ c ∧ c < 256) (h2 : k < 4) (h3 : 0 ≤ s ∧ s < 4) (h4 : j < 4) : mk (ws c k s) j = (if j = k then s else mk c j) ∧ 0 ≤ ws c k s ∧ ws c k s < 256 := by
  obtain ⟨c, rfl⟩ := Int.eq_ofNat_of_zero_le h1.1
  obtain ⟨s, rfl⟩ := Int.eq_ofNat_of_zero_le h3.1
  exact of_decide_eq_true (List.all_eq_true.mp (List.all_eq_true.mp (List.all_eq_true.mp (List.all_eq_true.mp mk_ws_n c (List.mem_range.mpr (by omega))) k (List.mem_range.mpr h2)) s (List.mem_range.mpr (by omega))) j (List.mem_range.mpr h4))
theorem mk_hc_n : ((List.range 81).all fun h => decide (mk (hc h) 0 = (h : Int) / 27 ∧ mk (hc h) 1 = (h : Int) / 9 % 3 ∧ mk (hc h) 2 = (h : Int) / 3 % 3 ∧ mk (hc h) 3 = (h : Int) % 3)) = true := by decide +kernel
/-- a code is its four marks -/
theorem mk_ext {c c' : Int} (h : 0 ≤ c ∧ c < 256) (h' : 0 ≤ c' ∧ c' < 256) (e : ∀ k, k < 4 → mk c k = mk c' k) : c = c' := by
  have e0 := e 0 (by decide)
  have e1 := e 1 (by decide)
  have e2 := e 2 (by decide)
  have e3 := e 3 (by decide)
  unfold mk at e0 e1 e2 e3
  omega
