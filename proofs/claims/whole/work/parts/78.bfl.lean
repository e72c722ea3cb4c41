/-! ===== the reference's loops for how a row was before ===== -/
theorem TM.k5 {t : Tn} {μ μ' : amM} (ok : t.Ok) (h : TM 72 t μ) (hs : same SG μ μ') : TM 72 t μ' := h.keep2 ok hs (fun _ _ => rfl) (fun _ _ _ => rfl)
theorem S5x_G {μ μ' : amM} (h : same S5x μ μ') : same SG μ μ' := S845_G (S5x_w h)
def tm (t : Tn) (a b : Int) (v : Nat → Int) (y x : Nat) : Int := bi (t.TT a b (t.ix a x) (t.ix b y)) * t.EX a v x
theorem tm_sum (t : Tn) (a b : Int) (v : Nat → Int) (y : Nat) : sm 82 (tm t a b v y) = t.cx a b v (t.ix b y) := sum82 (t := t) (L := a) (fun j => bi (t.TT a b j (t.ix b y))) v
theorem st_in (d : Nat) {t : Tn} (ok : t.Ok) {v : Nat → Int} {B : Int} (hB : 0 ≤ B) {a : Nat} (ha : a + 1 < t.lots) (hv : Bd t (a : Int) v B) (x1 N : Int) {y : Nat} (hy : y ≤ 81) (py : t.pr ((a + 1 : Nat) : Int) y = true) : ∀ (n x : Nat) (μ : amM), x + n = 82 → TM 72 t μ → GO t μ → RV 84 t (a : Int) v 82 μ → μ 85 y = w64 (sm x (tm t (a : Int) ((a + 1 : Nat) : Int) v y)) → ∃ μ', At cr2 (d + 3) 225 7 [] [71, x1, N, ((a + 1 : Nat) : Int), (y : Int), (x : Int), 0] μ = At cr2 (d + 3) 225 10 [] [71, x1, N, ((a + 1 : Nat) : Int), (y : Int), 0, 0] μ' ∧ μ' 85 y = w64 (sm 82 (tm t (a : Int) ((a + 1 : Nat) : Int) v y)) ∧ same (S85 y) μ μ'
  | 0, x, μ, hx, h, hg, hr, he => by
    rw [B225_7, if_pos (by omega)]
    rw [show x = 82 by omega] at he
    exact ⟨μ, rfl, he, same.rf⟩
  | n + 1, x, μ, hx, h, hg, hr, he => by
    have h64 := ok.le.2
    have S : ∀ w, same (S85 y) μ (up μ 85 y w) := fun w => same.rf.up (by
      unfold S85
      rw [show Nat.beq 85 85 = true from rfl, show Nat.beq y y = true from Nat.beq_refl y]; rfl)
    have eb := EX_B hB hv (x := x) (by omega)
    obtain ⟨μ', g1, g2, g3⟩ := st_in d ok hB ha hv x1 N hy py n (x + 1) (up μ 85 y (w64 (sm (x + 1) (tm t (a : Int) ((a + 1 : Nat) : Int) v y)))) (by omega) (h.k5 ok (S5x_G (S85_w (S _)))) (hg.keep (S85_w (S _)) (fun _ => rfl)) (fun k hk => (S85_w (S _) _ _ rfl).trans (hr k hk)) (up_eq _ _ _ _)
    refine ⟨μ', ?_, g2, (S _).tn g3⟩
    have fin : ∀ w : Int, w = tm t (a : Int) ((a + 1 : Nat) : Int) v y x → At cr2 (d + 3) 225 9 [w, μ 85 y, (y : Int), 85] [71, x1, N, ((a + 1 : Nat) : Int), (y : Int), (x : Int), 0] μ = At cr2 (d + 3) 225 10 [] [71, x1, N, ((a + 1 : Nat) : Int), (y : Int), 0, 0] μ' := fun w hw => by
      rw [B225_9, wr_p (by omega) (by omega), Int.toNat_natCast, he, w64_al, hw, w32_i (by omega) (by omega)]
      exact g1
    have nil : tm t (a : Int) ((a + 1 : Nat) : Int) v y x = 0 → At cr2 (d + 3) 225 8 [μ 85 y, (y : Int), 85] [71, x1, N, ((a + 1 : Nat) : Int), (y : Int), (x : Int), 0] μ = At cr2 (d + 3) 225 10 [] [71, x1, N, ((a + 1 : Nat) : Int), (y : Int), 0, 0] μ' := fun hw => by
      rw [B225_8]
      exact fin 0 hw.symm
    rw [B225_7, if_neg (by omega), allow_e _ ok h ha, bnd_s, py, if_neg (by decide), rd_p (by omega) (by omega), rd_p (by omega) (by omega), Int.toNat_natCast, Int.toNat_natCast, hr x (by omega)]
    by_cases q : t.EX (a : Int) v x = 0
    · rw [q, if_neg sgn_0]
      exact nil (by
        unfold tm
        rw [q, Int.mul_zero])
    · have px : t.pr (a : Int) x = true := by
        rw [EX_pr v (by omega)] at q
        cases e : t.pr (a : Int) x with
        | true => rfl
        | false => rw [e] at q; exact absurd rfl q
      have pe := pass_e d ok h hg (show a < t.lots by omega) ha (show x ≤ 81 by omega) hy px py
      rw [if_pos (sgn_p eb.1 q), w32_i (by omega) (by omega), show ((a + 1 : Nat) : Int) - 1 = (a : Int) by omega, pe, bnd_s]
      cases e : t.TT (a : Int) ((a + 1 : Nat) : Int) (t.ix (a : Int) x) (t.ix ((a + 1 : Nat) : Int) y) with
      | false =>
        rw [if_pos (by rfl)]
        exact nil (by
          unfold tm
          rw [e, show bi false = 0 from rfl, Int.zero_mul])
      | true =>
        rw [if_neg (by decide), rd_p (by omega) (by omega), Int.toNat_natCast, hr x (by omega)]
        exact fin _ (by
          unfold tm
          rw [e, show bi true = 1 from rfl, Int.one_mul])
theorem st_out (d : Nat) {t : Tn} (ok : t.Ok) {v : Nat → Int} {B : Int} (hB : 0 ≤ B) (hB2 : 81 * B < 9223372036854775808) {a : Nat} (ha : a + 1 < t.lots) (hv : Bd t (a : Int) v B) (x1 N : Int) : ∀ (n y : Nat) (μ : amM), y + n = 82 → TM 72 t μ → GO t μ → RV 84 t (a : Int) v 82 μ → RV 85 t ((a + 1 : Nat) : Int) (t.cx (a : Int) ((a + 1 : Nat) : Int) v) y μ → ∃ μ', At cr2 (d + 3) 225 6 [] [71, x1, N, ((a + 1 : Nat) : Int), (y : Int), 0, 0] μ = At cr2 (d + 3) 225 11 [] [71, x1, N, ((a + 1 : Nat) : Int), 0, 0, 0] μ' ∧ RV 85 t ((a + 1 : Nat) : Int) (t.cx (a : Int) ((a + 1 : Nat) : Int) v) 82 μ' ∧ same S5x μ μ'
  | 0, y, μ, hy, h, hg, hr, he => by
    rw [B225_6, if_pos (by omega)]
    rw [show y = 82 by omega] at he
    exact ⟨μ, rfl, he, same.rf⟩
  | n + 1, y, μ, hy, h, hg, hr, he => by
    have h64 := ok.le.2
    have hs : same S5x μ (up μ 85 y 0) := same.rf.up rfl
    have hu := h.k5 ok (S5x_G hs)
    have one : ∃ μ1, At cr2 (d + 3) 225 7 [] [71, x1, N, ((a + 1 : Nat) : Int), (y : Int), 0, 0] (up μ 85 y 0) = At cr2 (d + 3) 225 10 [] [71, x1, N, ((a + 1 : Nat) : Int), (y : Int), 0, 0] μ1 ∧ μ1 85 y = t.EX ((a + 1 : Nat) : Int) (t.cx (a : Int) ((a + 1 : Nat) : Int) v) y ∧ same (S85 y) (up μ 85 y 0) μ1 := by
      rw [EX_pr _ (show y ≤ 81 by omega)]
      cases py : t.pr ((a + 1 : Nat) : Int) y with
      | false =>
        rw [B225_7, if_neg (by decide), allow_e _ ok hu ha, bnd_s, py, if_pos (by rfl)]
        exact ⟨_, rfl, up_eq _ _ _ _, same.rf⟩
      | true =>
        obtain ⟨μ1, g1, g2, g3⟩ := st_in d ok hB ha hv x1 N (show y ≤ 81 by omega) py 82 0 (up μ 85 y 0) rfl hu (hg.keep hs (fun _ => rfl)) (fun k hk => (hs _ _ rfl).trans (hr k hk)) ((up_eq _ _ _ _).trans w64_0.symm)
        have b := cx_B (L' := ((a + 1 : Nat) : Int)) hB hv (t.ix ((a + 1 : Nat) : Int) y)
        rw [tm_sum, w64_b b.1 (by omega)] at g2
        exact ⟨μ1, g1, g2, g3⟩
    obtain ⟨μ1, g1, g2, g3⟩ := one
    have hs1 := hs.tn (S85_w g3)
    obtain ⟨μ', k1, k2, k3⟩ := st_out d ok hB hB2 ha hv x1 N n (y + 1) μ1 (by omega) (h.k5 ok (S5x_G hs1)) (hg.keep hs1 (fun _ => rfl)) (fun k hk => (hs1 _ _ rfl).trans (hr k hk)) (fun k hk => by
      by_cases q : k = y
      · rw [q]; exact g2
      · rw [g3 85 k (by
          cases e : S85 y 85 k with
          | false => rfl
          | true => exact absurd (S85_e e).2 q), up_ne _ _ _ _ (Or.inr q)]
        exact he k (by omega))
    refine ⟨μ', ?_, k2, hs1.tn k3⟩
    rw [B225_6, if_neg (by omega), wr_p (by omega) (by omega), Int.toNat_natCast]
    refine g1.trans ?_
    rw [B225_10, w32_i (by omega) (by omega)]
    exact k1
theorem st_cpy (d : Nat) {t : Tn} {L : Int} {w : Nat → Int} (x1 N x3 : Int) : ∀ (n y : Nat) (μ : amM), y + n = 82 → RV 85 t L w 82 μ → RV 84 t L w y μ → ∃ μ', At cr2 d 225 12 [] [71, x1, N, x3, (y : Int), 0, 0] μ = At cr2 d 225 13 [] [71, x1, N, x3, 0, 0, 0] μ' ∧ RV 84 t L w 82 μ' ∧ same S845 μ μ'
  | 0, y, μ, hy, hw, h => by
    rw [B225_12, if_pos (by omega)]
    rw [show y = 82 by omega] at h
    exact ⟨μ, rfl, h, same.rf⟩
  | n + 1, y, μ, hy, hw, h => by
    obtain ⟨μ', k1, k2, k3⟩ := st_cpy d (t := t) (L := L) (w := w) x1 N x3 n (y + 1) (up μ 84 y (μ 85 y)) (by omega) (fun i hi => (up_ne _ _ _ _ (Or.inl (by decide))).trans (hw i hi)) (fun i hi => by
      by_cases q : i = y
      · rw [q, up_eq]; exact hw y (by omega)
      · rw [up_ne _ _ _ _ (Or.inr q)]
        exact h i (by omega))
    refine ⟨μ', ?_, k2, (same.rf.up rfl).tn k3⟩
    rw [B225_12, if_neg (by omega), rd_p (by omega) (by omega), wr_p (by omega) (by omega), Int.toNat_natCast, w32_i (by omega) (by omega)]
    exact k1
theorem nl_s {n a : Nat} (h : a + 1 < n) : nl n a = a + 1 := if_pos h
theorem st_all (d : Nat) {t : Tn} (ok : t.Ok) (x1 : Int) : ∀ (n a : Nat) (v : Nat → Int) (B : Int) (μ : amM), a + 1 + n = t.lots → 0 ≤ B → B * 81 ^ n < 9223372036854775808 → Bd t (a : Int) v B → TM 72 t μ → GO t μ → RV 84 t (a : Int) v 82 μ → ∃ μ', At cr2 (d + 3) 225 5 [] [71, x1, (t.lots : Int), ((a + 1 : Nat) : Int), 0, 0, 0] μ = At cr2 (d + 3) 225 14 [] [71, x1, (t.lots : Int), 0, 0, 0, 0] μ' ∧ RV 84 t ((t.lots - 1 : Nat) : Int) (t.wk t.lots n a v) 82 μ' ∧ Bd t ((t.lots - 1 : Nat) : Int) (t.wk t.lots n a v) (B * 81 ^ n) ∧ same S845 μ μ'
  | 0, a, v, B, μ, hn, h0, hB, hv, h, hg, hr => by
    rw [B225_5, if_neg (by omega), show t.lots - 1 = a by omega, Int.pow_zero, Int.mul_one]
    exact ⟨μ, rfl, hr, hv, same.rf⟩
  | n + 1, a, v, B, μ, hn, h0, hB, hv, h, hg, hr => by
    have h64 := ok.le.2
    have e81 : 81 * B * 81 ^ n = B * 81 ^ (n + 1) := by
      rw [Int.pow_succ, Int.mul_comm 81 B, Int.mul_assoc, Int.mul_comm 81]
    have p81 : (1 : Int) ≤ 81 ^ n := by
      have := Int.pow_pos (m := n) (show (0 : Int) < 81 by decide)
      exact this
    have hB1 : 81 * B ≤ 81 * B * 81 ^ n := by
      have := Int.mul_le_mul_of_nonneg_left p81 (show 0 ≤ 81 * B by omega)
      rw [Int.mul_one] at this
      exact this
    obtain ⟨μ1, a1, a2, a3⟩ := st_out d ok h0 (by omega) (show a + 1 < t.lots by omega) hv x1 (t.lots : Int) 82 0 μ rfl h hg hr (fun k hk => by omega)
    obtain ⟨μ2, b1, b2, b3⟩ := st_cpy (d + 3) (t := t) (L := ((a + 1 : Nat) : Int)) x1 (t.lots : Int) ((a + 1 : Nat) : Int) 82 0 μ1 rfl a2 (fun k hk => by omega)
    have hs := (S5x_w a3).tn b3
    obtain ⟨μ', k1, k2, k3, k4⟩ := st_all d ok x1 n (a + 1) (t.cx (a : Int) ((a + 1 : Nat) : Int) v) (81 * B) μ2 (by omega) (by omega) (by rw [e81]; exact hB) (fun j _ => cx_B h0 hv j) (h.k5 ok (S845_G hs)) ((hg.keep a3 (fun _ => rfl)).keep b3 (fun _ => rfl)) b2
    rw [e81] at k3
    have ew : t.wk t.lots (n + 1) a v = t.wk t.lots n (a + 1) (t.cx (a : Int) ((a + 1 : Nat) : Int) v) := by
      show t.wk t.lots n (nl t.lots a) (t.cx (a : Int) ((nl t.lots a : Nat) : Int) v) = _
      rw [nl_s (by omega)]
    rw [ew]
    refine ⟨μ', ?_, k2, k3, hs.tn k4⟩
    rw [B225_5, if_pos (by omega)]
    refine a1.trans ?_
    rw [B225_11]
    refine b1.trans ?_
    rw [B225_13, w32_i (by omega) (by omega)]
    exact k1
theorem st_beg (d : Nat) {t : Tn} {f : Nat} (hf : f ≤ 81) (pf : t.pr ((0 : Nat) : Int) f = true) (N : Int) : ∀ (n x : Nat) (μ : amM), x + n = 82 → RV 84 t ((0 : Nat) : Int) (dlt (t.ix ((0 : Nat) : Int) f)) x μ → ∃ μ', At cr2 d 225 1 [] [71, (f : Int), N, (x : Int), 0, 0, 0] μ = At cr2 d 225 4 [] [71, (f : Int), N, 0, 0, 0, 0] μ' ∧ RV 84 t ((0 : Nat) : Int) (dlt (t.ix ((0 : Nat) : Int) f)) 82 μ' ∧ same S845 μ μ'
  | 0, x, μ, hx, h => by
    rw [B225_1, if_pos (by omega)]
    rw [show x = 82 by omega] at h
    exact ⟨μ, rfl, h, same.rf⟩
  | n + 1, x, μ, hx, h => by
    have e : t.EX ((0 : Nat) : Int) (dlt (t.ix ((0 : Nat) : Int) f)) x = if x = f then 1 else 0 := by
      unfold Tn.EX Tn.ix dlt
      cases q : t.any ((0 : Nat) : Int) with
      | true =>
        have := pr_t q pf
        simp only [cond_true]
        by_cases e : x = f
        · rw [if_pos (by omega), if_pos e]
        · rw [if_neg e]
          by_cases e2 : x < 81
          · rw [if_pos e2]
          · rw [if_neg e2]
      | false =>
        have := pr_f q pf
        simp only [cond_false]
        by_cases e : x = f
        · rw [if_pos (by omega), if_pos e, if_pos trivial]
        · rw [if_neg (by omega), if_neg e]
    obtain ⟨μ', g1, g2, g3⟩ := st_beg d hf pf N n (x + 1) (up μ 84 x (t.EX ((0 : Nat) : Int) (dlt (t.ix ((0 : Nat) : Int) f)) x)) (by omega) (fun k hk => by
      by_cases q : k = x
      · rw [q, up_eq]
      · rw [up_ne _ _ _ _ (Or.inr q)]
        exact h k (by omega))
    refine ⟨μ', ?_, g2, (same.rf.up rfl).tn g3⟩
    rw [B225_1, if_neg (by omega)]
    by_cases q : x = f
    · rw [if_pos (by omega), B225_3, wr_p (by omega) (by omega), Int.toNat_natCast, w32_i (by omega) (by omega)]
      rw [e, if_pos q] at g1
      exact g1
    · rw [if_neg (by omega), B225_2, B225_3, wr_p (by omega) (by omega), Int.toNat_natCast, w32_i (by omega) (by omega)]
      rw [e, if_neg q] at g1
      exact g1
