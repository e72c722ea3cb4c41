set_option maxRecDepth 100000 in
theorem prs_n : ((List.range 8).all fun r => (List.range 8).all fun c => (List.range 3).all fun s => decide ((prs (r + 1) (c + 1) s).length ≤ 128)) = true := by decide +kernel
theorem Tn.Ok.prs {t : Tn} (h : t.Ok) : t.prs.length ≤ 128 := by
  obtain ⟨⟨h1, h2, h3, h4, h5, -⟩, -⟩ := h
  have q := List.all_eq_true.mp (List.all_eq_true.mp (List.all_eq_true.mp prs_n (t.rows - 1) (List.mem_range.mpr (by omega))) (t.cols - 1) (List.mem_range.mpr (by omega))) t.shape (List.mem_range.mpr (by omega))
  rw [show t.rows - 1 + 1 = t.rows by omega, show t.cols - 1 + 1 = t.cols by omega] at q
  exact of_decide_eq_true q
theorem flat_succ {α : Type} (f : Nat → List α) (n : Nat) : (List.range (n + 1)).flatMap f = (List.range n).flatMap f ++ f n := by
  rw [List.range_succ, List.flatMap_append]
  simp
theorem flat_len {α : Type} (f : Nat → List α) {a b : Nat} (h : a ≤ b) : ((List.range a).flatMap f).length ≤ ((List.range b).flatMap f).length := by
  induction b with
  | zero => rw [Nat.le_zero.mp h]; exact Nat.le_refl _
  | succ b ih =>
    rcases Nat.lt_or_ge a (b + 1) with q | q
    · rw [flat_succ, List.length_append]
      have := ih (by omega)
      omega
    · rw [show a = b + 1 by omega]; exact Nat.le_refl _
theorem fp_loop (d : Nat) {t : Tn} (ok : t.Ok) : ∀ (n lot : Nat) (μ : amM), lot + n = t.lots → TM 72 t μ → PF ((List.range lot).flatMap (prsAt t.rows t.cols t.shape)) μ → ∃ μ', At cr2 (d + 1) 175 1 [] [71, (t.cols : Int), (lot : Int), 0] μ = some (0, μ') ∧ PF t.prs μ' ∧ same SP μ μ'
  | 0, lot, μ, hn, h, hp => by
    have hn : lot = t.lots := by omega
    subst hn
    rw [B175_1, mLots_e d ok h, bnd_s, if_neg (by omega), B175_6]
    exact ⟨μ, rfl, hp, same.rf⟩
  | n + 1, lot, μ, hn, h, hp => by
    have hlen : ((List.range lot).flatMap (prsAt t.rows t.cols t.shape) ++ prsAt t.rows t.cols t.shape lot).length ≤ 128 := by
      rw [← flat_succ]
      exact Nat.le_trans (flat_len _ (show lot + 1 ≤ t.lots by omega)) ok.prs
    obtain ⟨μ1, h1, h2, h3⟩ := fp_lot d ok h hp (by omega) hlen
    rw [← flat_succ] at h2
    obtain ⟨μ2, g1, g2, g3⟩ := fp_loop d ok n (lot + 1) μ1 (by omega) (h.keep h3 (fun _ => rfl)) h2
    exact ⟨μ2, by rw [h1]; exact g1, g2, h3.tr g3⟩
theorem findPairs_e (d : Nat) {t : Tn} {μ : amM} (ok : t.Ok) (h : TM 72 t μ) : ∃ μ', RD cr2 (d + 2) 175 [71] μ = some (0, μ') ∧ PF t.prs μ' ∧ same SP μ μ' := by
  have h0 : same SP μ (up μ 71 13 0) := same.rf.up (by rfl)
  have hp : PF ((List.range 0).flatMap (prsAt t.rows t.cols t.shape)) (up μ 71 13 0) := ⟨up_eq _ _ _ _, fun i hi => absurd hi (Nat.not_lt_zero i)⟩
  have hm := h.keep h0 (fun _ => rfl)
  obtain ⟨μ', g1, g2, g3⟩ := fp_loop d ok t.lots 0 _ (Nat.zero_add _) hm hp
  refine ⟨μ', ?_, g2, h0.tr g3⟩
  rw [M175]
  show At cr2 (d + 1) 175 1 [] [71, up μ 71 13 0 72 1, 0, 0] (up μ 71 13 0) = _
  rw [hm.1.2.1]
  exact g1
