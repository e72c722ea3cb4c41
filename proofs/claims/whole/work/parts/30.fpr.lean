theorem TM.keep {c : Nat} {t : Tn} {μ μ' : amM} {S : Nat → Nat → Bool} (h : TM c t μ) (hs : same S μ μ') (hS : ∀ i, S c i = false) : TM c t μ' := by
  unfold TM at h ⊢
  obtain ⟨⟨h0, h1, h2, h3, h4⟩, h5⟩ := h
  refine ⟨⟨by rw [hs _ _ (hS _)]; exact h0, by rw [hs _ _ (hS _)]; exact h1, by rw [hs _ _ (hS _)]; exact h2, by rw [hs _ _ (hS _)]; exact h3, by rw [hs _ _ (hS _)]; exact h4⟩, fun lot hl => ?_⟩
  obtain ⟨h6, h7⟩ := h5 lot hl
  refine ⟨by rw [hs _ _ (hS _)]; exact h6, fun hn => ⟨by rw [hs _ _ (hS _)]; exact (h7 hn).1, fun k hk => by rw [hs _ _ (hS _)]; exact (h7 hn).2 k hk⟩⟩
theorem len_app_l {α : Type} {l a b : List α} {n : Nat} (h : (l ++ (a ++ b)).length ≤ n) : (l ++ a).length ≤ n := by
  rw [List.length_append, List.length_append] at h
  rw [List.length_append]
  omega
theorem fp_lot (d : Nat) {t : Tn} {μ : amM} (ok : t.Ok) (h : TM 72 t μ) {l : List (Nat × Nat)} (hp : PF l μ) {lot : Nat} (hl : lot < t.lots) (hlen : (l ++ prsAt t.rows t.cols t.shape lot).length ≤ 128) :
    ∃ μ', At cr2 (d + 1) 175 1 [] [71, (t.cols : Int), (lot : Int), 0] μ = At cr2 (d + 1) 175 1 [] [71, (t.cols : Int), ((lot + 1 : Nat) : Int), 0] μ' ∧ PF (l ++ prsAt t.rows t.cols t.shape lot) μ' ∧ same SP μ μ' := by
  have h64 := ok.le.2
  obtain ⟨⟨r1, r2, c1, c2, s2, -⟩, -⟩ := id ok
  have hll : t.lots = t.rows * t.cols := rfl
  unfold prsAt at hlen ⊢
  rw [List.append_assoc, List.append_assoc] at hlen ⊢
  have hS : ∀ i, SP 72 i = false := fun i => rfl
  -- the next in the row
  have A : ∃ μ1, At cr2 (d + 1) 175 1 [] [71, (t.cols : Int), (lot : Int), 0] μ = At cr2 (d + 1) 175 2 [] [71, (t.cols : Int), (lot : Int), ((lot % t.cols : Nat) : Int)] μ1 ∧ PF (l ++ if lot % t.cols + 1 < t.cols then [(lot, lot + 1)] else []) μ1 ∧ same SP μ μ1 := by
    have e : (lot : Int).tmod (t.cols : Int) = ((lot % t.cols : Nat) : Int) := by rw [Int.tmod_eq_emod_of_nonneg (by omega)]; rfl
    have hm := Nat.mod_lt lot (show 0 < t.cols by omega)
    rw [B175_1, mLots_e d ok h, bnd_s, if_pos (by omega), if_neg (by omega), e, w32_i (x := ((lot % t.cols : Nat) : Int) + 1) (by omega) (by omega)]
    by_cases q : lot % t.cols + 1 < t.cols
    · obtain ⟨μ1, g1, g2, g3⟩ := addPair_e d hp (by rw [if_pos q] at hlen; have := len_app_l hlen; rw [List.length_append] at this; exact Nat.lt_of_succ_le this) lot (lot + 1)
      rw [if_pos q, if_pos (by omega), w32_i (x := (lot : Int) + 1) (by omega) (by omega)]
      refine ⟨μ1, ?_, g2, g3⟩
      rw [show ((lot : Int) + 1) = ((lot + 1 : Nat) : Int) by omega, g1, bnd_s]
    · rw [if_neg q, if_neg (by omega), List.append_nil]
      exact ⟨μ, rfl, hp, same.rf⟩
  obtain ⟨μ1, a1, a2, a3⟩ := A
  have h1 := h.keep a3 hS
  -- the last of the row
  have B : ∃ μ2, At cr2 (d + 1) 175 2 [] [71, (t.cols : Int), (lot : Int), ((lot % t.cols : Nat) : Int)] μ1 = At cr2 (d + 1) 175 3 [] [71, (t.cols : Int), (lot : Int), 0] μ2 ∧ PF ((l ++ if lot % t.cols + 1 < t.cols then [(lot, lot + 1)] else []) ++ if 0 < t.shape ∧ 2 < t.cols ∧ lot % t.cols = 0 then [(lot, lot + t.cols - 1)] else []) μ2 ∧ same SP μ1 μ2 := by
    rw [← List.append_assoc] at hlen
    rw [B175_2, h1.1.2.2.1]
    by_cases q : 0 < t.shape ∧ 2 < t.cols ∧ lot % t.cols = 0
    · obtain ⟨μ2, g1, g2, g3⟩ := addPair_e d a2 (by rw [if_pos q] at hlen; have := len_app_l hlen; rw [List.length_append] at this; exact Nat.lt_of_succ_le this) lot (lot + t.cols - 1)
      rw [if_pos q, if_pos (by omega), if_pos (by omega), if_pos (by omega), w32_i (x := (lot : Int) + t.cols) (by omega) (by omega), w32_i (by omega) (by omega), show ((lot : Int) + t.cols - 1) = ((lot + t.cols - 1 : Nat) : Int) by omega, g1, bnd_s]
      exact ⟨μ2, rfl, g2, g3⟩
    · rw [if_neg q, List.append_nil]
      refine ⟨μ1, ?_, a2, same.rf⟩
      by_cases q1 : 0 < (t.shape : Int)
      · rw [if_pos q1]
        by_cases q2 : 2 < (t.cols : Int)
        · rw [if_pos q2, if_neg (fun q3 => q ⟨by omega, by omega, by omega⟩)]
        · rw [if_neg q2]
      · rw [if_neg q1]
  obtain ⟨μ2, b1, b2, b3⟩ := B
  have h2 := h1.keep b3 hS
  -- the next in the column
  have C : ∃ μ3, At cr2 (d + 1) 175 3 [] [71, (t.cols : Int), (lot : Int), 0] μ2 = At cr2 (d + 1) 175 4 [] [71, (t.cols : Int), (lot : Int), 0] μ3 ∧ PF (((l ++ if lot % t.cols + 1 < t.cols then [(lot, lot + 1)] else []) ++ if 0 < t.shape ∧ 2 < t.cols ∧ lot % t.cols = 0 then [(lot, lot + t.cols - 1)] else []) ++ if lot + t.cols < t.rows * t.cols then [(lot, lot + t.cols)] else []) μ3 ∧ same SP μ2 μ3 := by
    rw [← List.append_assoc, ← List.append_assoc] at hlen
    rw [B175_3, mLots_e d ok h2, bnd_s, w32_i (by omega) (by omega)]
    by_cases q : lot + t.cols < t.rows * t.cols
    · obtain ⟨μ3, g1, g2, g3⟩ := addPair_e d b2 (by rw [if_pos q] at hlen; have := len_app_l hlen; rw [List.length_append] at this; exact Nat.lt_of_succ_le this) lot (lot + t.cols)
      rw [if_pos q, if_pos (by omega), show ((lot : Int) + t.cols) = ((lot + t.cols : Nat) : Int) by omega, g1, bnd_s]
      exact ⟨μ3, rfl, g2, g3⟩
    · rw [if_neg q, List.append_nil, if_neg (by omega)]
      exact ⟨μ2, rfl, b2, same.rf⟩
  obtain ⟨μ3, c1', c2', c3⟩ := C
  have h3 := h2.keep c3 hS
  -- the last of the column
  have D : ∃ μ4, At cr2 (d + 1) 175 4 [] [71, (t.cols : Int), (lot : Int), 0] μ3 = At cr2 (d + 1) 175 5 [] [71, (t.cols : Int), (lot : Int), 0] μ4 ∧ PF ((((l ++ if lot % t.cols + 1 < t.cols then [(lot, lot + 1)] else []) ++ if 0 < t.shape ∧ 2 < t.cols ∧ lot % t.cols = 0 then [(lot, lot + t.cols - 1)] else []) ++ if lot + t.cols < t.rows * t.cols then [(lot, lot + t.cols)] else []) ++ if t.shape = 2 ∧ 2 < t.rows ∧ lot < t.cols then [(lot, lot + (t.rows - 1) * t.cols)] else []) μ4 ∧ same SP μ3 μ4 := by
    rw [← List.append_assoc, ← List.append_assoc, ← List.append_assoc] at hlen
    have hmul : (t.rows - 1) * t.cols ≤ 64 := Nat.le_trans (Nat.mul_le_mul (show t.rows - 1 ≤ 8 by omega) c2) (by decide)
    have em : ((t.rows : Int) - 1) * (t.cols : Int) = (((t.rows - 1) * t.cols : Nat) : Int) := by
      rw [Int.natCast_mul, show ((t.rows - 1 : Nat) : Int) = (t.rows : Int) - 1 by omega]
    rw [B175_4, h3.1.2.2.1, h3.1.1, w32_i (x := (t.rows : Int) - 1) (by omega) (by omega), em, w32_i (x := (((t.rows - 1) * t.cols : Nat) : Int)) (by omega) (by omega), w32_i (x := (lot : Int) + _) (by omega) (by omega)]
    by_cases q : t.shape = 2 ∧ 2 < t.rows ∧ lot < t.cols
    · obtain ⟨μ4, g1, g2, g3⟩ := addPair_e d c2' (by rw [if_pos q, List.length_append] at hlen; exact Nat.lt_of_succ_le hlen) lot (lot + (t.rows - 1) * t.cols)
      rw [if_pos q, if_pos (by omega), if_pos (by omega), if_pos (by omega), ← Int.natCast_add, g1, bnd_s]
      exact ⟨μ4, rfl, g2, g3⟩
    · rw [if_neg q, List.append_nil]
      refine ⟨μ3, ?_, c2', same.rf⟩
      by_cases q1 : (t.shape : Int) = 2
      · rw [if_pos q1]
        by_cases q2 : 2 < (t.rows : Int)
        · rw [if_pos q2, if_neg (fun q3 => q ⟨by omega, by omega, by omega⟩)]
        · rw [if_neg q2]
      · rw [if_neg q1]
  obtain ⟨μ4, d1, d2, d3⟩ := D
  refine ⟨μ4, ?_, ?_, ((a3.tr b3).tr c3).tr d3⟩
  · rw [a1, b1, c1', d1, B175_5, w32_i (by omega) (by omega)]
    rfl
  · rw [List.append_assoc, List.append_assoc, List.append_assoc] at d2
    exact d2
