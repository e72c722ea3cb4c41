theorem TM.keep {c : Nat} {t : Tn} {μ μ' : amM} {S : Nat → Nat → Bool} (h : TM c t μ) (hs : same S μ μ') (hS : ∀ i, S c i = false) : TM c t μ' := by
  unfold TM at h ⊢
  obtain ⟨⟨h0, h1, h2, h3, h4⟩, h5⟩ := h
  refine ⟨⟨by rw [hs _ _ (hS _)]; exact h0, by rw [hs _ _ (hS _)]; exact h1, by rw [hs _ _ (hS _)]; exact h2, by rw [hs _ _ (hS _)]; exact h3, by rw [hs _ _ (hS _)]; exact h4⟩, fun lot hl => ?_⟩
  obtain ⟨h6, h7⟩ := h5 lot hl
  refine ⟨by rw [hs _ _ (hS _)]; exact h6, fun hn => ⟨by rw [hs _ _ (hS _)]; exact (h7 hn).1, fun k hk => by rw [hs _ _ (hS _)]; exact (h7 hn).2 k hk⟩⟩
theorem len_app_l {α : Type} {l a b : List α} {n : Nat} (h : (l ++ (a ++ b)).length ≤ n) : (l ++ a).length ≤ n := by
  rw [List.length_append, List.length_append] at h
  rw [List.length_append]
  omega
theorem fp_lot (d : Nat) {t : Tn} {μ : amM} (ok : t.Ok) (h : TM 72 t μ) {l : List (Nat × Nat)} (hp : PF l μ) {lot : Nat} (hl : lot < t.lots) (hlen : (l ++ prsAt t.rows t.cols t.shape lot).length ≤ 128) :
    ∃ μ', At cr2 (d + 1) 175 1 [] [71, (t.cols : Int), (lot : Int), 0] μ = At cr2 (d + 1) 175 1 [] [71, (t.cols : Int), ((lot + 1 : Nat) : Int), 0] μ' ∧ PF (l ++ prsAt t.rows t.cols t.shape lot) μ' ∧ same SP μ μ' := by
  have h64 := ok.le.2
  obtain ⟨⟨r1, r2, c1, c2, s2, -⟩, -⟩ := ok
  have hll : t.lots = t.rows * t.cols := rfl
  unfold prsAt at hlen ⊢
  rw [List.append_assoc, List.append_assoc] at hlen ⊢
  have hS : ∀ i, SP 72 i = false := fun i => rfl
  -- the next in the row
  have A : ∃ μ1, At cr2 (d + 1) 175 1 [] [71, (t.cols : Int), (lot : Int), 0] μ = At cr2 (d + 1) 175 2 [] [71, (t.cols : Int), (lot : Int), ((lot % t.cols : Nat) : Int)] μ1 ∧ PF (l ++ if lot % t.cols + 1 < t.cols then [(lot, lot + 1)] else []) μ1 ∧ same SP μ μ1 := by
    have e : (lot : Int).tmod (t.cols : Int) = ((lot % t.cols : Nat) : Int) := by rw [Int.tmod_eq_emod_of_nonneg (by omega)]; rfl
    have hm := Nat.mod_lt lot (show 0 < t.cols by omega)
    rw [B175_1, mLots_e d ⟨⟨r1, r2, c1, c2, s2, ‹_›⟩, ‹_›⟩ h, bnd_s, if_pos (by omega), if_neg (by omega), e, w32_i (x := ((lot % t.cols : Nat) : Int) + 1) (by omega) (by omega)]
    by_cases q : lot % t.cols + 1 < t.cols
    · obtain ⟨μ1, g1, g2, g3⟩ := addPair_e d hp (by rw [if_pos q] at hlen; have := len_app_l hlen; rw [List.length_append] at this; exact Nat.lt_of_succ_le this) lot (lot + 1)
      rw [if_pos q, if_pos (by omega), w32_i (x := (lot : Int) + 1) (by omega) (by omega)]
      refine ⟨μ1, ?_, g2, g3⟩
      rw [show ((lot : Int) + 1) = ((lot + 1 : Nat) : Int) by omega, g1, bnd_s]
    · rw [if_neg q, if_neg (by omega), List.append_nil]
      exact ⟨μ, rfl, hp, same.rf⟩
  obtain ⟨μ1, a1, a2, a3⟩ := A
  sorry
