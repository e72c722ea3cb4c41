/-! ===== the reference's town; its methods that write nothing ===== -/
/-- the reference holds a town (c 72: the town, 73: the kept one) -/
def TM (c : Nat) (t : Tn) (μ : amM) : Prop :=
  (μ c 0 = t.rows ∧ μ c 1 = t.cols ∧ μ c 2 = t.shape ∧ μ c 3 = t.least ∧ μ c 4 = t.most) ∧
  ∀ lot, lot < t.lots → μ c (20 + lot) = t.kind lot + 1 ∧ (t.kind lot ≠ -1 → μ c (84 + lot) = t.m lot ∧ ∀ k, k < 4 → μ c (148 + 4 * lot + k) = mk (t.code lot) k)
theorem in_e (d : Nat) (x a b : Int) (μ : amM) : RD cr2 (d + 1) 151 [x, a, b] μ = some (bi (decide (a ≤ x) && decide (x ≤ b)), μ) := by
  rw [M151]
  by_cases h1 : x < a
  · rw [if_pos h1, if_pos (by decide), B151_1, B151_2, show decide (a ≤ x) = false from decide_eq_false (by omega)]; rfl
  · rw [if_neg h1, if_neg (by split <;> decide), show decide (a ≤ x) = true from decide_eq_true (by omega)]
    by_cases h2 : b < x
    · rw [if_neg (show ¬ x < b by omega), if_neg (show ¬ x = b by omega), if_pos (by decide), B151_1, B151_2, show decide (x ≤ b) = false from decide_eq_false (by omega)]; rfl
    · rw [if_neg (by split <;> (try split) <;> omega), B151_2, show decide (x ≤ b) = true from decide_eq_true (by omega)]; rfl
theorem mLots_e (d : Nat) {t : Tn} {μ : amM} (ok : t.Ok) (h : TM 72 t μ) : RD cr2 (d + 1) 153 [71] μ = some ((t.lots : Int), μ) := by
  have h64 := ok.le.2
  obtain ⟨⟨e0, e1, -⟩, -⟩ := h
  have e : (t.rows : Int) * (t.cols : Int) = (t.lots : Int) := by unfold Tn.lots; omega
  rw [M153, e0, e1, e, w32_i (by omega) (by omega)]
theorem mEmpty_e (d : Nat) {t : Tn} {μ : amM} (ok : t.Ok) (h : TM 72 t μ) {lot : Nat} (hl : lot < t.lots) : RD cr2 (d + 1) 155 [71, (lot : Int)] μ = some (bi (t.kind lot == -1), μ) := by
  have h64 := ok.le.2
  rw [M155, w32_i (by omega) (by omega), rd_p (by omega) (by omega), show ((20 : Int) + lot).toNat = 20 + lot by omega, (h.2 lot hl).1]
  by_cases h1 : t.kind lot = -1
  · rw [if_pos (by omega), B155_2, h1]; rfl
  · rw [if_neg (by omega), B155_1, B155_2, beq_false_of_ne h1]; rfl
theorem mKind_e (d : Nat) {t : Tn} {μ : amM} (ok : t.Ok) (h : TM 72 t μ) {lot : Nat} (hl : lot < t.lots) : RD cr2 (d + 1) 156 [71, (lot : Int)] μ = some (t.kind lot, μ) := by
  have h64 := ok.le.2
  have hk := (ok.2 lot hl).1
  rw [M156, w32_i (by omega) (by omega), rd_p (by omega) (by omega), show ((20 : Int) + lot).toNat = 20 + lot by omega, (h.2 lot hl).1, w32_i (by omega) (by omega), show t.kind lot + 1 - 1 = t.kind lot by omega]
theorem mMark_e (d : Nat) {t : Tn} {μ : amM} (ok : t.Ok) (h : TM 72 t μ) {lot k : Nat} (hl : lot < t.lots) (hk : k < 4) (hn : t.kind lot ≠ -1) : RD cr2 (d + 1) 157 [71, (lot : Int), (k : Int)] μ = some (mk (t.code lot) k, μ) := by
  have h64 := ok.le.2
  rw [M157, w32_i (x := 4 * (lot : Int)) (by omega) (by omega), w32_i (x := 148 + 4 * (lot : Int)) (by omega) (by omega), w32_i (by omega) (by omega), rd_p (by omega) (by omega), show ((148 : Int) + 4 * lot + k).toNat = 148 + 4 * lot + k by omega, ((h.2 lot hl).2 hn).2 k hk]
theorem mBound_e (d : Nat) {t : Tn} {μ : amM} (ok : t.Ok) (h : TM 72 t μ) {lot : Nat} (hl : lot < t.lots) : RD cr2 (d + 2) 177 [71, (lot : Int)] μ = some (bi (t.bound lot), μ) := by
  rw [M177, mEmpty_e d ok h hl, bnd_s]
  unfold Tn.bound
  by_cases h1 : t.kind lot = -1
  · rw [h1, if_neg (by decide), B177_1, B177_2]; rfl
  · rw [beq_false_of_ne h1, if_pos (show bi false = 0 from rfl), mKind_e d ok h hl, bnd_s]
    by_cases h2 : t.kind lot = 5
    · rw [if_pos h2, B177_1, B177_2, h2]; rfl
    · rw [if_neg h2, B177_2, beq_false_of_ne h2]; rfl
theorem mAlike_e (d : Nat) {t : Tn} {μ : amM} (ok : t.Ok) (h : TM 72 t μ) {a b : Nat} (ha : a < t.lots) (hb : b < t.lots) (na : t.kind a ≠ -1) (nb : t.kind b ≠ -1) : RD cr2 (d + 2) 176 [71, (a : Int), (b : Int)] μ = some (alk (t.code a) (t.code b), μ) := by
  have step : ∀ (k : Nat) (x : Int), k < 4 → 0 ≤ x → x < 100 → At cr2 (d + 1) 176 1 [] [71, (a : Int), (b : Int), x, (k : Int)] μ = At cr2 (d + 1) 176 1 [] [71, (a : Int), (b : Int), x + al1 (t.code a) (t.code b) k, ((k + 1 : Nat) : Int)] μ := by
    intro k x hk h0 h1
    have hm := mMark_e d ok h ha hk na
    have hm2 := mMark_e d ok h hb hk nb
    rw [B176_1, if_pos (by omega), hm, bnd_s]
    unfold al1
    by_cases c1 : mk (t.code a) k < 3
    · rw [if_pos c1, hm, bnd_s, hm2, bnd_s]
      by_cases c2 : mk (t.code a) k = mk (t.code b) k
      · rw [if_pos c2, B176_3, if_pos ⟨c1, c2⟩, w32_i (x := x + 1) (by omega) (by omega), w32_i (by omega) (by omega)]
        rfl
      · rw [if_neg c2, B176_2, B176_3, if_neg (fun q => c2 q.2), w32_i (x := x + 0) (by omega) (by omega), w32_i (by omega) (by omega)]
        rfl
    · rw [if_neg c1, B176_2, B176_3, if_neg (fun q => c1 q.1), w32_i (x := x + 0) (by omega) (by omega), w32_i (by omega) (by omega)]
      rfl
  have g0 := al1_01 (t.code a) (t.code b) 0
  have g1 := al1_01 (t.code a) (t.code b) 1
  have g2 := al1_01 (t.code a) (t.code b) 2
  have s0 := step 0 0 (by decide) (by decide) (by decide)
  have s1 := step 1 (0 + al1 (t.code a) (t.code b) 0) (by decide) (by omega) (by omega)
  have s2 := step 2 (0 + al1 (t.code a) (t.code b) 0 + al1 (t.code a) (t.code b) 1) (by decide) (by omega) (by omega)
  have s3 := step 3 (0 + al1 (t.code a) (t.code b) 0 + al1 (t.code a) (t.code b) 1 + al1 (t.code a) (t.code b) 2) (by decide) (by omega) (by omega)
  rw [M176]
  refine s0.trans (s1.trans (s2.trans (s3.trans ?_)))
  rw [B176_1, if_neg (by decide), B176_4]
  unfold alk
  congr 2
  omega
