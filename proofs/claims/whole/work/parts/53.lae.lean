def FD (b r c s : Nat) (μ : amM) : Prop := μ b 7 = (r : Int) ∧ μ b 8 = (c : Int) ∧ μ b 9 = (s : Int) ∧ μ b 10 = ((r * c : Nat) : Int)
theorem ctN {cr : amC} {μ : amM} {b k v : Nat} (h : cr b k = none) (e : μ b k = (v : Int)) : amCt cr μ b k = (v : Int) := by
  unfold amCt
  rw [h]
  exact e
theorem FD.keep {b r c s : Nat} {μ μ' : amM} (h : FD b r c s μ) (hs : ∀ i, μ' b i = μ b i) : FD b r c s μ' := ⟨(hs _).trans h.1, (hs _).trans h.2.1, (hs _).trans h.2.2.1, (hs _).trans h.2.2.2⟩
theorem jo_e (cr : amC) (d : Nat) {b : Nat} (hb : isTw b) {r c s : Nat} (hr : 1 ≤ r ∧ r ≤ 8) (hc : 1 ≤ c ∧ c ≤ 8) {J : List (Nat × Nat)} {lot : Nat} (hl : lot < r * c) {μ : amM} (h : LH cr b μ) (hf : FD b r c s μ) (hs : SR b (r * c) (fsJ J) μ) : ∃ μ', RD cr (d + 3) 63 [(b : Int), ((lot / c : Nat) : Int), ((lot % c : Nat) : Int)] μ = some (0, μ') ∧ SR b (r * c) (fsJ (J ++ jn r c s lot)) μ' ∧ same (lySa b) μ μ' := by
  have h64 : r * c ≤ 64 := Nat.mul_le_mul hr.2 hc.2
  have hm := Nat.mod_lt lot (show 0 < c by omega)
  have hdm := Nat.div_add_mod lot c
  have hdl : lot / c < r := (Nat.div_lt_iff_lt_mul (by omega)).mpr hl
  have hmul : c * (lot / c) ≤ 64 := by omega
  have hd0 : (0 : Int) ≤ ((lot / c : Nat) : Int) := Int.natCast_nonneg _
  have n7 := h.2.2.2 7 (by decide)
  have n8 := h.2.2.2 8 (by decide)
  have n9 := h.2.2.2 9 (by decide)
  have el : w32 (w32 (((lot / c : Nat) : Int) * (c : Int)) + ((lot % c : Nat) : Int)) = (lot : Int) := by
    have e : ((lot / c : Nat) : Int) * (c : Int) = ((c * (lot / c) : Nat) : Int) := by rw [Int.natCast_mul, Int.mul_comm]
    rw [e, w32_i (x := ((c * (lot / c) : Nat) : Int)) (by omega) (by omega), w32_i (by omega) (by omega)]
    omega
  have el1 : w32 ((lot : Int) + 1) = ((lot + 1 : Nat) : Int) := w32_i (by omega) (by omega)
  unfold jn
  have A : ∃ μ1, RD cr (d + 3) 63 [(b : Int), ((lot / c : Nat) : Int), ((lot % c : Nat) : Int)] μ = At cr (d + 2) 63 2 [] [(b : Int), ((lot / c : Nat) : Int), ((lot % c : Nat) : Int), (lot : Int)] μ1 ∧ SR b (r * c) (fsJ (J ++ jnA r c s lot)) μ1 ∧ same (lySa b) μ μ1 := by
    rw [M63, gfL (tw0 hb) (ctN n8 hf.2.1), gfL (tw0 hb) (ctN n8 hf.2.1), el, el1, w32_i (by omega) (by omega)]
    unfold jnA
    by_cases q : lot % c + 1 < c
    · have hl1 : lot + 1 < r * c := by
        have h1 : c * (lot / c) + c ≤ c * r := by
          rw [← Nat.mul_succ]
          exact Nat.mul_le_mul_left c hdl
        rw [Nat.mul_comm r c]
        omega
      obtain ⟨μ1, g1, g2, g3⟩ := join_e cr d hb h64 hl hl1 h hs
      rw [if_pos (by omega), if_pos q, if_pos (tw0 hb), g1, bnd_s]
      exact ⟨μ1, rfl, g2, g3⟩
    · rw [if_neg (by omega), if_neg q, B63_1, gfL (tw0 hb) (ctN n9 hf.2.2.1)]
      by_cases q2 : 0 < s
      · rw [if_pos (by omega), gfL (tw0 hb) (ctN n8 hf.2.1)]
        by_cases q3 : 2 < c
        · have hl1 : lot - lot % c < r * c := by omega
          obtain ⟨μ1, g1, g2, g3⟩ := join_e cr d hb h64 hl hl1 h hs
          rw [if_neg (by omega), if_pos (tw0 hb), w32_i (by omega) (by omega), show (lot : Int) - ((lot % c : Nat) : Int) = ((lot - lot % c : Nat) : Int) by omega, g1, bnd_s, if_pos (show 0 < s ∧ 2 < c from ⟨q2, q3⟩)]
          exact ⟨μ1, rfl, g2, g3⟩
        · rw [if_pos (by omega), if_neg (fun w => q3 w.2), List.append_nil]
          exact ⟨μ, rfl, hs, same.rf⟩
      · rw [if_neg (by omega), if_neg (fun w => q2 w.1), List.append_nil]
        exact ⟨μ, rfl, hs, same.rf⟩
  obtain ⟨μ1, a1, a2, a3⟩ := A
  have h1 := h.keep (fun i _ => a3 _ _ (lySa_b b i))
  have hf1 := hf.keep (fun i => a3 _ _ (lySa_b b i))
  have B : ∃ μ2, At cr (d + 2) 63 2 [] [(b : Int), ((lot / c : Nat) : Int), ((lot % c : Nat) : Int), (lot : Int)] μ1 = some (0, μ2) ∧ SR b (r * c) (fsJ ((J ++ jnA r c s lot) ++ jnB r c s lot)) μ2 ∧ same (lySa b) μ1 μ2 := by
    rw [B63_2, gfL (tw0 hb) (ctN n7 hf1.1), w32_i (by omega) (by omega)]
    unfold jnB
    by_cases q : lot / c + 1 < r
    · have hl1 : lot + c < r * c := by
        have h1 : c * (lot / c + 1) + c ≤ c * r := by
          rw [← Nat.mul_succ]
          exact Nat.mul_le_mul_left c q
        rw [Nat.mul_succ] at h1
        rw [Nat.mul_comm r c]
        omega
      obtain ⟨μ2, g1, g2, g3⟩ := join_e cr d hb h64 hl hl1 h1 a2
      rw [if_pos (by omega), if_pos q, gfL (tw0 hb) (ctN n8 hf1.2.1), if_pos (tw0 hb), w32_i (by omega) (by omega), show (lot : Int) + (c : Int) = ((lot + c : Nat) : Int) by omega, g1, bnd_s, B63_4]
      exact ⟨μ2, rfl, g2, g3⟩
    · rw [if_neg (by omega), if_neg q, B63_3, gfL (tw0 hb) (ctN n9 hf1.2.2.1)]
      by_cases q2 : s = 2
      · rw [if_pos (by omega), gfL (tw0 hb) (ctN n7 hf1.1)]
        by_cases q3 : 2 < r
        · have hl1 : lot % c < r * c := by omega
          obtain ⟨μ2, g1, g2, g3⟩ := join_e cr d hb h64 hl hl1 h1 a2
          rw [if_neg (by omega), if_pos (tw0 hb), g1, bnd_s, B63_4, if_pos (show s = 2 ∧ 2 < r from ⟨q2, q3⟩)]
          exact ⟨μ2, rfl, g2, g3⟩
        · rw [if_pos (by omega), if_neg (fun w => q3 w.2), List.append_nil, B63_4]
          exact ⟨μ1, rfl, a2, same.rf⟩
      · rw [if_neg (by omega), if_neg (fun w => q2 w.1), List.append_nil, B63_4]
        exact ⟨μ1, rfl, a2, same.rf⟩
  obtain ⟨μ2, b1, b2, b3⟩ := B
  rw [List.append_assoc] at b2
  exact ⟨μ2, a1.trans b1, b2, a3.tr b3⟩
theorem jnL_succ (r c s n : Nat) : jnL r c s (n + 1) = jnL r c s n ++ jn r c s n := flat_succ _ _
theorem lay_cols (cr : amC) (d : Nat) {b : Nat} (hb : isTw b) {r c s : Nat} (hr : 1 ≤ r ∧ r ≤ 8) (hc : 1 ≤ c ∧ c ≤ 8) {row : Nat} (hrow : row < r) : ∀ (n col : Nat) (μ : amM), col + n = c → LH cr b μ → FD b r c s μ → SR b (r * c) (fsJ (jnL r c s (c * row + col))) μ → ∃ μ', At cr (d + 3) 62 4 [] [(b : Int), 0, 0, 0, (row : Int), (col : Int)] μ = At cr (d + 3) 62 3 [] [(b : Int), 0, 0, 0, ((row + 1 : Nat) : Int), 0] μ' ∧ SR b (r * c) (fsJ (jnL r c s (c * (row + 1)))) μ' ∧ same (lySa b) μ μ'
  | 0, col, μ, hn, h, hf, hs => by
    have hn : col = c := by omega
    subst hn
    rw [B62_4, gfL (tw0 hb) (ctN (h.2.2.2 8 (by decide)) hf.2.1), if_neg (by omega), B62_5, w32_i (by omega) (by omega)]
    exact ⟨μ, rfl, by rw [Nat.mul_succ]; exact hs, same.rf⟩
  | n + 1, col, μ, hn, h, hf, hs => by
    have h1 : c * row + c ≤ c * r := by
      rw [← Nat.mul_succ]
      exact Nat.mul_le_mul_left c hrow
    have hl : c * row + col < r * c := by
      rw [Nat.mul_comm r c]
      omega
    have e1 : (c * row + col) / c = row := by
      rw [Nat.mul_add_div (by omega), Nat.div_eq_of_lt (by omega), Nat.add_zero]
    have e2 : (c * row + col) % c = col := by
      rw [Nat.mul_add_mod, Nat.mod_eq_of_lt (by omega)]
    obtain ⟨μ1, g1, g2, g3⟩ := jo_e cr d hb hr hc hl h hf hs
    rw [e1, e2] at g1
    rw [← jnL_succ] at g2
    obtain ⟨μ2, f1, f2, f3⟩ := lay_cols cr d hb hr hc hrow n (col + 1) μ1 (by omega) (h.keep (fun i _ => g3 _ _ (lySa_b b i))) (hf.keep (fun i => g3 _ _ (lySa_b b i))) g2
    rw [B62_4, gfL (tw0 hb) (ctN (h.2.2.2 8 (by decide)) hf.2.1), if_pos (by omega), if_pos (tw0 hb), g1, bnd_s, w32_i (by omega) (by omega)]
    exact ⟨μ2, f1, f2, g3.tr f3⟩
theorem lay_rows (cr : amC) (d : Nat) {b : Nat} (hb : isTw b) {r c s : Nat} (hr : 1 ≤ r ∧ r ≤ 8) (hc : 1 ≤ c ∧ c ≤ 8) : ∀ (n row : Nat) (μ : amM), row + n = r → LH cr b μ → FD b r c s μ → SR b (r * c) (fsJ (jnL r c s (c * row))) μ → ∃ μ', At cr (d + 3) 62 3 [] [(b : Int), 0, 0, 0, (row : Int), 0] μ = some (0, μ') ∧ SR b (r * c) (fsJ (jnL r c s (r * c))) μ' ∧ same (lySa b) μ μ'
  | 0, row, μ, hn, h, hf, hs => by
    have hn : row = r := by omega
    subst hn
    rw [B62_3, gfL (tw0 hb) (ctN (h.2.2.2 7 (by decide)) hf.1), if_neg (by omega), B62_6]
    exact ⟨μ, rfl, by rw [Nat.mul_comm row c]; rw [Nat.mul_comm row c] at hs; exact hs, same.rf⟩
  | n + 1, row, μ, hn, h, hf, hs => by
    obtain ⟨μ1, g1, g2, g3⟩ := lay_cols cr d hb hr hc (show row < r by omega) c 0 μ (Nat.zero_add _) h hf hs
    obtain ⟨μ2, f1, f2, f3⟩ := lay_rows cr d hb hr hc n (row + 1) μ1 (by omega) (h.keep (fun i _ => g3 _ _ (lySa_b b i))) (hf.keep (fun i => g3 _ _ (lySa_b b i))) g2
    rw [B62_3, gfL (tw0 hb) (ctN (h.2.2.2 7 (by decide)) hf.1), if_pos (by omega)]
    exact ⟨μ2, g1.trans f1, f2, g3.tr f3⟩
theorem lay_clear (cr : amC) (d : Nat) {b : Nat} (hb : isTw b) {L : Nat} (hL : L ≤ 64) (ν : amM) : ∀ (n i : Nat) (μ : amM), i + n = L → LH cr b μ → μ b 10 = (L : Int) → same (lyS b) ν μ → (∀ k, μ b k = ν b k) → (∀ l, l < i → μ (b + 1) l = -1 ∧ μ (b + 5) l = 0) → ∃ μ', At cr d 62 1 [] [(b : Int), 0, 0, 0, (i : Int), 0] μ = At cr d 62 3 [] [(b : Int), 0, 0, 0, 0, 0] μ' ∧ same (lyS b) ν μ' ∧ (∀ k, μ' b k = ν b k) ∧ (∀ l, l < L → μ' (b + 1) l = -1 ∧ μ' (b + 5) l = 0)
  | 0, i, μ, hn, h, h10, hs, hk, hq => by
    have hn : i = L := by omega
    subst hn
    rw [B62_1, gfL (tw0 hb) (ctN (h.2.2.2 10 (by decide)) h10), if_neg (by omega), B62_2]
    exact ⟨μ, rfl, hs, hk, hq⟩
  | n + 1, i, μ, hn, h, h10, hs, hk, hq => by
    have t1 : lyS b (b + 1) i = true := by unfold lyS; rw [Nat.beq_refl (b + 1), Bool.or_true]; rfl
    have t5 : lyS b (b + 5) i = true := by unfold lyS; rw [Nat.beq_refl (b + 5), Bool.or_true]
    have h2 : LH cr b (up μ (b + 1) i (-1)) := h.keep (fun j _ => up_ne _ _ _ _ (Or.inl (by omega)))
    have e2 : ∀ k, up (up μ (b + 1) i (-1)) (b + 5) i 0 b k = μ b k := fun k => by rw [up_ne _ _ _ _ (Or.inl (by omega)), up_ne _ _ _ _ (Or.inl (by omega))]
    rw [B62_1, gfL (tw0 hb) (ctN (h.2.2.2 10 (by decide)) h10), if_pos (by omega), gfL (tw0 hb) h.1, pstL (tw1 hb) (by omega) (by omega), Int.toNat_natCast, gfL (tw0 hb) h2.2.2.1, pstL (tw5 hb) (by omega) (by omega), w32_i (by omega) (by omega), Int.toNat_natCast]
    refine lay_clear cr d hb hL ν n (i + 1) _ (by omega) (h.keep (fun j _ => e2 j)) ((e2 10).trans h10) ((hs.up t1).up t5) (fun k => (e2 k).trans (hk k)) (fun l hl => ⟨?_, ?_⟩)
    · rw [up_ne _ _ _ _ (Or.inl (by omega)), up_if]
      by_cases e : l = i
      · rw [if_pos e]
      · rw [if_neg e]; exact (hq l (by omega)).1
    · rw [up_if]
      by_cases e : l = i
      · rw [if_pos e]
      · rw [if_neg e, up_ne _ _ _ _ (Or.inl (by omega))]; exact (hq l (by omega)).2
theorem lySa_w {b : Nat} {μ μ' : amM} (h : same (lySa b) μ μ') : same (lyS b) μ μ' := by
  refine h.wide (fun c i q => ?_)
  unfold lyS at q
  unfold lySa
  rw [Bool.or_eq_false_iff, Bool.or_eq_false_iff] at q
  rw [q.1.2, q.2]; rfl
theorem lay_e (cr : amC) (d : Nat) {b : Nat} (hb : isTw b) {r c s : Nat} (hr : 1 ≤ r ∧ r ≤ 8) (hc : 1 ≤ c ∧ c ≤ 8) (hss : s ≤ 2) {μ : amM} (h : LH cr b μ) : ∃ μ', RD cr (d + 4) 62 [(b : Int), (r : Int), (c : Int), (s : Int)] μ = some (0, μ') ∧ FD b r c s μ' ∧ (∀ l, l < r * c → μ' (b + 1) l = -1) ∧ (∀ l, l < r * c → μ' (b + 5) l = ((nbs r c s l).length : Nat) ∧ ∀ i, i < (nbs r c s l).length → μ' (b + 4) (4 * l + i) = ((nbs r c s l).getD i 0 : Nat)) ∧ same (lyS b) μ μ' := by
  have h64 : r * c ≤ 64 := Nat.mul_le_mul hr.2 hc.2
  have n7 := h.2.2.2 7 (by decide)
  have n8 := h.2.2.2 8 (by decide)
  have n9 := h.2.2.2 9 (by decide)
  have n10 := h.2.2.2 10 (by decide)
  have t : ∀ i, 7 ≤ i → i ≤ 10 → lyS b b i = true := fun i h1 h2 => by unfold lyS; rw [Nat.beq_refl b, ble_t h1, ble_t h2]; rfl
  let μ3 : amM := up (up (up μ b 7 (r : Int)) b 8 (c : Int)) b 9 (s : Int)
  have q7 : μ3 b 7 = (r : Int) := by
    show up (up (up μ b 7 (r : Int)) b 8 (c : Int)) b 9 (s : Int) b 7 = _
    rw [up_ne _ _ _ _ (Or.inr (by decide)), up_ne _ _ _ _ (Or.inr (by decide)), up_eq]
  have q8 : μ3 b 8 = (c : Int) := by
    show up (up (up μ b 7 (r : Int)) b 8 (c : Int)) b 9 (s : Int) b 8 = _
    rw [up_ne _ _ _ _ (Or.inr (by decide)), up_eq]
  have q9 : μ3 b 9 = (s : Int) := up_eq _ _ _ _
  let μ4 : amM := up μ3 b 10 ((r * c : Nat) : Int)
  have f4 : FD b r c s μ4 := ⟨(up_ne _ _ _ _ (Or.inr (by decide))).trans q7, (up_ne _ _ _ _ (Or.inr (by decide))).trans q8, (up_ne _ _ _ _ (Or.inr (by decide))).trans q9, up_eq _ _ _ _⟩
  have s4 : same (lyS b) μ μ4 := (((same.rf.up (t 7 (by decide) (by decide))).up (t 8 (by decide) (by decide))).up (t 9 (by decide) (by decide))).up (t 10 (by decide) (by decide))
  have h4 : LH cr b μ4 := h.keep (fun i hi => s4 _ _ (lyS_b hi))
  have E : RD cr (d + 4) 62 [(b : Int), (r : Int), (c : Int), (s : Int)] μ = At cr (d + 3) 62 1 [] [(b : Int), 0, 0, 0, 0, 0] μ4 := by
    rw [M62, pfL (tw0 hb) (by decide) n7 (by decide), pfL (tw0 hb) (by decide) n8 (by decide), pfL (tw0 hb) (by decide) n9 (by decide), gfL (tw0 hb) (ctN n7 q7), gfL (tw0 hb) (ctN n8 q8), pfL (tw0 hb) (by decide) n10 (by decide)]
    rw [show (r : Int) * (c : Int) = ((r * c : Nat) : Int) from (Int.natCast_mul r c).symm, w32_i (by omega) (by omega)]
  obtain ⟨μ5, g1, g2, g3, g4⟩ := lay_clear cr (d + 3) hb h64 μ4 (r * c) 0 μ4 (Nat.zero_add _) h4 f4.2.2.2 same.rf (fun _ => rfl) (fun l hl => absurd hl (Nat.not_lt_zero l))
  obtain ⟨μ6, k1, k2, k3⟩ := lay_rows cr d hb hr hc r 0 μ5 (Nat.zero_add _) (h4.keep (fun i _ => g3 i)) (f4.keep (fun i => g3 i)) (fun l hl => ⟨(g4 l hl).2, fun i hi => absurd hi (Nat.not_lt_zero i)⟩)
  refine ⟨μ6, E.trans (g1.trans k1), (f4.keep (fun i => g3 i)).keep (fun i => k3 _ _ (lySa_b b i)), fun l hl => ?_, fun l hl => ?_, (s4.tr g2).tr (lySa_w k3)⟩
  · rw [k3 _ _ (by unfold lySa; rw [beq_f (show b + 1 ≠ b + 4 by omega), beq_f (show b + 1 ≠ b + 5 by omega)]; rfl)]
    exact (g4 l hl).1
  · have q := List.all_eq_true.mp (List.all_eq_true.mp (List.all_eq_true.mp (List.all_eq_true.mp lay_n (r - 1) (List.mem_range.mpr (by omega))) (c - 1) (List.mem_range.mpr (by omega))) s (List.mem_range.mpr (by omega))) l
    rw [show r - 1 + 1 = r by omega, show c - 1 + 1 = c by omega] at q
    have q2 : fsJ (jnL r c s (r * c)) l = nbs r c s l := of_decide_eq_true (q (List.mem_range.mpr hl))
    rw [← q2]
    exact k2 l hl
/-! town -/
def Tn.lay (t : Tn) (r c s : Nat) : Tn := (r, c, s, t.2.2.2.1, t.2.2.2.2.1, fun _ => -1, fun _ => 0, fun _ => 0)
def townS (σ : St) (r c s : Int) : Int × St := bif (decide (1 ≤ r) && decide (r ≤ 8)) then (bif (decide (1 ≤ c) && decide (c ≤ 8)) then (bif (decide (0 ≤ s) && decide (s ≤ 2)) then (((r.toNat * c.toNat : Nat) : Int), σ.setT (σ.t.lay r.toNat c.toNat s.toNat)) else σ.no 1) else σ.no 1) else σ.no 1
theorem wi1_n {x a : Int} (h : (decide (1 ≤ x) && decide (x ≤ a)) = true) : ∃ n : Nat, x = n ∧ 1 ≤ n ∧ (n : Int) ≤ a := by
  rw [Bool.and_eq_true] at h
  have h1 := of_decide_eq_true h.1
  have h2 := of_decide_eq_true h.2
  exact ⟨x.toNat, by omega, by omega, by omega⟩
theorem lay_ok {t : Tn} (ok : t.Ok) {r c s : Nat} (hr : 1 ≤ r ∧ r ≤ 8) (hc : 1 ≤ c ∧ c ≤ 8) (hs : s ≤ 2) : (t.lay r c s).Ok := ⟨⟨hr.1, hr.2, hc.1, hc.2, hs, ok.1.2.2.2.2.2⟩, fun _ _ => ⟨⟨by show (-1 : Int) ≤ -1; decide, by show (-1 : Int) ≤ 6; decide⟩, fun h => absurd rfl h⟩⟩
theorem town_ok {σ : St} (ok : σ.Ok) (r c s : Int) : (townS σ r c s).2.Ok := by
  refine cd_ok (fun h1 => cd_ok (fun h2 => cd_ok (fun h3 => ?_) (fun _ => ok)) (fun _ => ok)) (fun _ => ok)
  obtain ⟨a, rfl, ha, ha2⟩ := wi1_n h1
  obtain ⟨b, rfl, hb, hb2⟩ := wi1_n h2
  obtain ⟨e, rfl, he⟩ := wi_n h3
  exact ok.setT (lay_ok ok.t ⟨ha, by show a ≤ 8; omega⟩ ⟨hb, by show b ≤ 8; omega⟩ (by show e ≤ 2; omega))
theorem lyS_T {μ μ' : amM} (h : same (lyS 2) μ μ') : same (or2 gT ScC) μ μ' := by
  refine h.wide (fun c i q => ?_)
  have q := or2_l q
  unfold gT at q
  rw [Bool.or_eq_false_iff] at q
  unfold lyS
  by_cases e2 : c = 2
  · subst e2
    have q1 : Nat.ble 7 i = false := q.1
    rw [q1]; rfl
  · by_cases e3 : c = 3
    · rw [e3] at q; cases q.2
    · by_cases e6 : c = 6
      · rw [e6] at q; cases q.2
      · by_cases e7 : c = 7
        · rw [e7] at q; cases q.2
        · rw [beq_f e2, beq_f (show c ≠ 2 + 1 from e3), beq_f (show c ≠ 2 + 4 from e6), beq_f (show c ≠ 2 + 5 from e7)]; rfl
theorem lyS_F {μ μ' : amM} (h : same (lyS 2) μ μ') : same FC μ μ' := by
  refine h.wide (fun c i q => ?_)
  unfold lyS
  by_cases e2 : c = 2
  · subst e2
    by_cases g : 7 ≤ i
    · obtain ⟨j, rfl⟩ := Nat.exists_eq_add_of_le g
      rw [Nat.add_comm] at q
      cases q
    · rw [ble_f (show i < 7 by omega), Bool.false_and, Bool.and_false]; rfl
  · by_cases e3 : c = 3
    · rw [e3] at q; cases q
    · by_cases e6 : c = 6
      · rw [e6] at q; cases q
      · by_cases e7 : c = 7
        · rw [e7] at q; cases q
        · rw [beq_f e2, beq_f (show c ≠ 2 + 1 from e3), beq_f (show c ≠ 2 + 4 from e6), beq_f (show c ≠ 2 + 5 from e7)]; rfl
theorem LH2 (μ : amM) : LH cr2 2 μ := ⟨rfl, rfl, rfl, fun k hk => by
  obtain ⟨j, rfl⟩ := Nat.exists_eq_add_of_le hk
  rw [Nat.add_comm]
  rfl⟩
theorem town_c (d : Nat) {σ : St} {μ : amM} (h : CI σ μ) (r c s : Int) : OC μ (RD cr2 (d + 20) 99 [0, r, c, s] μ) (townS σ r c s) := by
  have no1 : OC μ (At cr2 (d + 19) 99 1 [] [0, 0, 0, 0] μ) (σ.no 1) := by
    rw [B99_1]
    exact (OC.no _ h (by decide) (by decide)).bi (fun _ _ => rfl)
  unfold townS
  rw [M99, isWithin_e, bnd_s, ifb]
  refine OC.cd (fun h1 => ?_) (fun _ => no1)
  rw [isWithin_e, bnd_s, ifb]
  refine OC.cd (fun h2 => ?_) (fun _ => no1)
  rw [isWithin_e, bnd_s, ifb]
  refine OC.cd (fun h3 => ?_) (fun _ => no1)
  obtain ⟨a, rfl, ha, ha2⟩ := wi1_n h1
  obtain ⟨b, rfl, hb, hb2⟩ := wi1_n h2
  obtain ⟨e, rfl, he⟩ := wi_n h3
  obtain ⟨μ', g1, g2, g3, g4, g5⟩ := lay_e cr2 (d + 15) (Or.inl rfl) (r := a) (c := b) (s := e) ⟨ha, by omega⟩ ⟨hb, by omega⟩ (by omega) (LH2 μ)
  rw [B99_2]
  refine OC.bs g1 ?_
  rw [g2.2.2.2, Int.toNat_natCast, Int.toNat_natCast, Int.toNat_natCast]
  exact ⟨μ', rfl, h.setT (lyS_T g5) ⟨⟨g2.1, g2.2.1, g2.2.2.1, g2.2.2.2, (g5 _ _ rfl).trans h.tc.1.2.2.2.2.1, (g5 _ _ rfl).trans h.tc.1.2.2.2.2.2⟩, fun l hl => ⟨g3 l hl, fun q => absurd rfl q⟩, g4⟩, lyS_F g5⟩
theorem clear_mloop (d : Nat) (ν : amM) : ∀ (n i : Nat) (μ : amM), i + n = 64 → same hT ν μ → (∀ j, j < 5 → μ 72 j = ν 72 j) → (∀ l, l < i → μ 72 (20 + l) = 0) → ∃ μ', At cr2 (d + 2) 187 3 [] [71, 0, 0, 0, (i : Int)] μ = At cr2 (d + 2) 187 4 [] [71, 0, 0, 0, 0] μ' ∧ same hT ν μ' ∧ (∀ j, j < 5 → μ' 72 j = ν 72 j) ∧ (∀ l, l < 64 → μ' 72 (20 + l) = 0)
  | 0, i, μ, hn, h1, h2, h3 => by
    have hn : i = 64 := by omega
    subst hn
    rw [B187_3, if_neg (by omega)]
    exact ⟨μ, rfl, h1, h2, h3⟩
  | n + 1, i, μ, hn, h1, h2, h3 => by
    -- a town of 8 x 8, so that every lot is one
    have ok8 : (Tn.lay (1, 4, 0, 1, 1, fun _ => -1, fun _ => 0, fun _ => 0) 8 8 0).Ok := ⟨⟨by decide, by decide, by decide, by decide, by decide, by decide, by decide, by decide⟩, fun _ _ => ⟨⟨by show (-1 : Int) ≤ -1; decide, by show (-1 : Int) ≤ 6; decide⟩, fun h => absurd rfl h⟩⟩
    have st : ∀ (k : Nat) (μ : amM), k < 4 → At cr2 (d + 1) 183 1 [] [71, (i : Int), (k : Int)] μ = At cr2 (d + 1) 183 1 [] [71, (i : Int), ((k + 1 : Nat) : Int)] (up μ 72 (148 + 4 * i + k) 0) := fun k μ hk => by
      rw [B183_1, if_pos (by omega), sets_e d ok8 (lot := i) (show i < 64 by omega) hk, bnd_s, w32_i (by omega) (by omega)]
      rfl
    have E : RD cr2 (d + 2) 183 [71, (i : Int)] μ = some (0, stM μ i 0 0 0 0 0 0) := by
      rw [M183, w32_i (x := 20 + (i : Int)) (by omega) (by omega), wr_p (by omega) (by omega), w32_i (x := 84 + (i : Int)) (by omega) (by omega), wr_p (by omega) (by omega), show ((20 : Int) + i).toNat = 20 + i by omega, show ((84 : Int) + i).toNat = 84 + i by omega]
      refine (st 0 _ (by decide)).trans ((st 1 _ (by decide)).trans ((st 2 _ (by decide)).trans ((st 3 _ (by decide)).trans ?_)))
      rw [B183_1, if_neg (by decide), B183_2]
      rfl
    have s1 : same (SM i) μ (stM μ i 0 0 0 0 0 0) := stM_s _ _ _ _ _ _ _ _
    rw [B187_3, if_pos (by omega), E, bnd_s, w32_i (by omega) (by omega)]
    refine clear_mloop d ν n (i + 1) _ (by omega) (h1.tr (s1.wide (fun c j q => ?_))) (fun j hj => ?_) (fun l hl => ?_)
    · by_cases e : c = 72
      · subst e
        have q2 : (Nat.ble j 4 || Nat.ble 20 j && Nat.ble j 403) = false := q
        rw [Bool.or_eq_false_iff] at q2
        have g : ¬ (20 ≤ j ∧ j ≤ 403) := fun g => by
          rw [ble_t g.1, ble_t g.2] at q2
          cases q2.2
        exact SM_i (by omega) (by omega) (by omega)
      · exact SM_o e
    · rw [s1 _ _ (SM_i (by omega) (by omega) (by omega))]; exact h2 j hj
    · by_cases e : l = i
      · subst e
        unfold stM
        rw [up_if, if_neg (by omega), up_if, if_neg (by omega), up_if, if_neg (by omega), up_if, if_neg (by omega), up_if, if_neg (by omega), up_if, if_pos rfl]
      · rw [s1 _ _ (SM_i (by omega) (by omega) (by omega))]; exact h3 l (by omega)
theorem town_m (d : Nat) {σ : St} {μ : amM} (ok : σ.Ok) (h : MI σ μ) (r c s : Int) : OM μ (RD cr2 (d + 20) 187 [71, r, c, s] μ) (townS σ r c s) := by
  have no1 : OM μ (At cr2 (d + 19) 187 1 [] [71, 0, 0, 0, 0] μ) (σ.no 1) := by
    rw [B187_1]
    exact (OM.no _ ok h (by decide) (by decide)).bi (fun _ _ => rfl)
  unfold townS
  rw [M187, in_e, bnd_s, ifb]
  refine OM.cd (fun h1 => ?_) (fun _ => no1)
  rw [in_e, bnd_s, ifb]
  refine OM.cd (fun h2 => ?_) (fun _ => no1)
  rw [in_e, bnd_s, ifb]
  refine OM.cd (fun h3 => ?_) (fun _ => no1)
  obtain ⟨a, rfl, ha, ha2⟩ := wi1_n h1
  obtain ⟨b, rfl, hb, hb2⟩ := wi1_n h2
  obtain ⟨e, rfl, he⟩ := wi_n h3
  have s1 : same hT μ (up (up (up μ 72 0 (a : Int)) 72 1 (b : Int)) 72 2 (e : Int)) := ((same.rf.up rfl).up rfl).up rfl
  obtain ⟨μ', g1, g2, g3, g4⟩ := clear_mloop (d + 17) (up (up (up μ 72 0 (a : Int)) 72 1 (b : Int)) 72 2 (e : Int)) 64 0 _ rfl same.rf (fun _ _ => rfl) (fun l hl => absurd hl (Nat.not_lt_zero l))
  have hok : (σ.t.lay a b e).Ok := lay_ok ok.t ⟨ha, by omega⟩ ⟨hb, by omega⟩ (by omega)
  have h64 : (σ.t.lay a b e).lots ≤ 64 := hok.le.2
  have ht : TM 72 (σ.t.lay a b e) μ' := ⟨⟨g3 0 (by decide), g3 1 (by decide), g3 2 (by decide), (g3 3 (by decide)).trans h.tm.1.2.2.2.1, (g3 4 (by decide)).trans h.tm.1.2.2.2.2⟩, fun l hl => ⟨g4 l (by omega), fun q => absurd rfl q⟩⟩
  have hs : same hT μ μ' := s1.tr g2
  have g1' : At cr2 (d + 19) 187 3 [] [71, 0, 0, 0, 0] (up (up (up μ 72 0 (a : Int)) 72 1 (b : Int)) 72 2 (e : Int)) = At cr2 (d + 19) 187 4 [] [71, 0, 0, 0, 0] μ' := g1
  rw [B187_2, wf_e, wf_e, wf_e, g1', B187_4, mLots_e _ hok ht, bnd_s, Int.toNat_natCast, Int.toNat_natCast, Int.toNat_natCast]
  refine ⟨μ', rfl, h.setT ok hs.l ht, hs.wide (fun c i q => ?_)⟩
  unfold hT
  by_cases e : c = 72
  · subst e; cases q
  · rw [beq_f e]; rfl
