/-! ===== rows and rings ===== -/
def SG (c _ : Nat) : Bool := Nat.beq c 84 || Nat.beq c 85 || Nat.beq c 86
theorem SG_e {c i : Nat} (h : SG c i = true) : c = 84 ∨ c = 85 ∨ c = 86 := by
  unfold SG at h
  rw [Bool.or_eq_true, Bool.or_eq_true] at h
  rcases h with (h | h) | h
  · exact Or.inl (Nat.eq_of_beq_eq_true h)
  · exact Or.inr (Or.inl (Nat.eq_of_beq_eq_true h))
  · exact Or.inr (Or.inr (Nat.eq_of_beq_eq_true h))
theorem SG_Sc {μ μ' : amM} (h : same SG μ μ') : same (or2 h0 ScM) μ μ' := by
  refine h.wide (fun c i q => ?_)
  have q := or2_r q
  cases e : SG c i with
  | false => rfl
  | true =>
    rcases SG_e e with e | e | e <;> (rw [e] at q; cases q)
theorem SG_F {μ μ' : amM} (h : same SG μ μ') : same FM μ μ' := by
  refine h.wide (fun c i q => ?_)
  cases e : SG c i with
  | false => rfl
  | true =>
    rcases SG_e e with e | e | e <;> (rw [e] at q; cases q)
theorem S845_G {μ μ' : amM} (h : same S845 μ μ') : same SG μ μ' := h.wide (fun c i q => by
  cases e : S845 c i with
  | false => rfl
  | true =>
    unfold S845 at e
    rw [Bool.or_eq_true] at e
    rcases e with e | e <;> (rw [Nat.eq_of_beq_eq_true e] at q; cases q))
theorem S86_G {μ μ' : amM} (h : same S86 μ μ') : same SG μ μ' := h.wide (fun c i q => by
  cases e : S86 c i with
  | false => rfl
  | true =>
    unfold S86 at e
    rw [Nat.eq_of_beq_eq_true e] at q; cases q)
def rowsS (σ : St) (n : Int) : Int × St := bif (decide (1 ≤ n) && decide (n ≤ 9)) then (w64 (81 * σ.t.M ^ (n.toNat - 1)), σ) else σ.no 1
def ringsS (σ : St) (n : Int) : Int × St := bif (decide (3 ≤ n) && decide (n ≤ 9)) then (w64 (81 * σ.t.nxs n.toNat (dlt 0) 0), σ) else σ.no 1
theorem rows_ok {σ : St} (ok : σ.Ok) (n : Int) : (rowsS σ n).2.Ok := cd_ok (fun _ => ok) (fun _ => ok)
theorem rings_ok {σ : St} (ok : σ.Ok) (n : Int) : (ringsS σ n).2.Ok := cd_ok (fun _ => ok) (fun _ => ok)
theorem wi_an {x a b : Int} (ha : 0 ≤ a) (h : (decide (a ≤ x) && decide (x ≤ b)) = true) : ∃ n : Nat, x = n ∧ a ≤ n ∧ (n : Int) ≤ b := by
  rw [Bool.and_eq_true] at h
  have h1 := of_decide_eq_true h.1
  have h2 := of_decide_eq_true h.2
  exact ⟨x.toNat, by omega, by omega, by omega⟩
theorem rc_loop (d : Nat) {σ : St} {μ : amM} (h : CI σ μ) {N : Nat} (hN : N ≤ 9) : ∀ (n i : Nat), i + n = N → 1 ≤ i → At cr2 (d + 4) 116 2 [] [0, (N : Int), w64 (81 * σ.t.M ^ (i - 1)), 0, (i : Int)] μ = some (w64 (81 * σ.t.M ^ (N - 1)), μ)
  | 0, i, hi, h1 => by
    rw [B116_2, if_neg (by omega), B116_3, show i = N by omega]
  | n + 1, i, hi, h1 => by
    rw [B116_2, if_pos (by omega), howManyGo_e d h.tc, bnd_s, show ((cntB (fun x => σ.t.go (hc 0) (hc x)) 81 : Nat) : Int) = σ.t.M from rfl, w64_ml, w32_i (by omega) (by omega)]
    have ih := rc_loop d h hN n (i + 1) (by omega) (by omega)
    rw [show 81 * σ.t.M ^ (i + 1 - 1) = 81 * σ.t.M ^ (i - 1) * σ.t.M from by
      rw [show i + 1 - 1 = (i - 1) + 1 by omega, Int.pow_succ, Int.mul_assoc]] at ih
    exact ih
theorem rows_c (d : Nat) {σ : St} {μ : amM} (h : CI σ μ) (n : Int) : OC μ (RD cr2 (d + 20) 116 [0, n] μ) (rowsS σ n) := by
  unfold rowsS
  rw [M116, isWithin_e, bnd_s, ifb]
  refine OC.cd (fun hl => ?_) (fun _ => (OC.no _ h (by decide) (by decide)).bi (fun _ _ => rfl))
  obtain ⟨N, rfl, h1, h2⟩ := wi_an (by decide) hl
  have e := rc_loop (d + 15) h (N := N) (by omega) (N - 1) 1 (by omega) (by omega)
  rw [B116_1, Int.toNat_natCast]
  have e0 : w64 (81 * σ.t.M ^ (1 - 1)) = 81 := by
    rw [show 1 - 1 = 0 from rfl, Int.pow_zero]; rfl
  rw [e0, show ((1 : Nat) : Int) = 1 from rfl] at e
  rw [show At cr2 (d + 19) 116 2 [] [0, (N : Int), 81, 0, 1] μ = some (w64 (81 * σ.t.M ^ (N - 1)), μ) from e]
  exact OC.rt h
theorem ones_m (d : Nat) (N : Int) : ∀ (n i : Nat) (μ : amM), i + n = 81 → VW 84 i (fun _ => 1) μ → ∃ μ', At cr2 d 221 2 [] [71, N, 0, 0, (i : Int)] μ = At cr2 d 221 3 [] [71, N, 0, 0, 0] μ' ∧ VW 84 81 (fun _ => 1) μ' ∧ same S845 μ μ'
  | 0, i, μ, hi, h => by
    rw [B221_2, if_neg (by omega)]
    rw [show i = 81 by omega] at h
    exact ⟨μ, rfl, h, same.rf⟩
  | n + 1, i, μ, hi, h => by
    obtain ⟨μ', g1, g2, g3⟩ := ones_m d N n (i + 1) (up μ 84 i 1) (by omega) (fun k hk => by
      by_cases q : k = i
      · rw [q, up_eq, w64_1]
      · rw [up_ne _ _ _ _ (Or.inr q)]
        exact h k (by omega))
    refine ⟨μ', ?_, g2, (same.rf.up rfl).tn g3⟩
    rw [B221_2, if_pos (by omega), wr_p (by omega) (by omega), Int.toNat_natCast, w32_i (by omega) (by omega)]
    exact g1
theorem on_m (d : Nat) {t : Tn} {N : Nat} (hN : N ≤ 9) : ∀ (n i : Nat) (v : Nat → Int) (μ : amM), i + n = N → GO t μ → VW 84 81 v μ → ∃ μ', At cr2 (d + 1) 221 4 [] [71, (N : Int), 0, 0, (i : Int)] μ = At cr2 (d + 1) 221 5 [] [71, 0, 0, 0, 0] μ' ∧ VW 84 81 (t.nxs n v) μ' ∧ GO t μ' ∧ same SG μ μ'
  | 0, i, v, μ, hi, hg, hv => by
    rw [B221_4, if_neg (by omega)]
    exact ⟨μ, rfl, hv, hg, same.rf⟩
  | n + 1, i, v, μ, hi, hg, hv => by
    obtain ⟨μ1, g1, g2, g3⟩ := goesOn_e d hg hv
    obtain ⟨μ', k1, k2, k3, k4⟩ := on_m d hN n (i + 1) _ μ1 (by omega) (hg.keep g3 (fun _ => rfl)) g2
    refine ⟨μ', ?_, k2, k3, (S845_G g3).tn k4⟩
    rw [B221_4, if_pos (by omega), g1, bnd_s, w32_i (by omega) (by omega)]
    exact k1
theorem sum_m (d : Nat) {v : Nat → Int} : ∀ (n i : Nat) (μ : amM), i + n = 81 → VW 84 81 v μ → At cr2 d 221 6 [] [71, 0, w64 (sm i v), 0, (i : Int)] μ = some (w64 (sm 81 v), μ)
  | 0, i, μ, hi, hv => by
    rw [B221_6, if_neg (by omega), B221_7, show i = 81 by omega]
  | n + 1, i, μ, hi, hv => by
    rw [B221_6, if_pos (by omega), rd_p (by omega) (by omega), Int.toNat_natCast, hv i (by omega), w64_al, w64_ar, w32_i (by omega) (by omega)]
    exact sum_m d n (i + 1) μ (by omega) hv
theorem rows_m (d : Nat) {σ : St} {μ : amM} (ok : σ.Ok) (h : MI σ μ) (n : Int) : OM μ (RD cr2 (d + 20) 221 [71, n] μ) (rowsS σ n) := by
  unfold rowsS
  rw [M221, in_e, bnd_s, ifb]
  refine OM.cd (fun hl => ?_) (fun _ => (OM.no _ ok h (by decide) (by decide)).bi (fun _ _ => rfl))
  obtain ⟨N, rfl, h1, h2⟩ := wi_an (by decide) hl
  rw [Int.toNat_natCast, B221_1]
  obtain ⟨μ1, a1, a2, a3⟩ := findGoes_e (d + 17) h.tm
  refine OM.bs a1 (OM.tr ?_ (SG_F (S86_G a3)))
  have hm1 := h.set0 ok (SG_Sc (S86_G a3))
  obtain ⟨μ2, b1, b2, b3⟩ := ones_m (d + 19) (N : Int) 81 0 μ1 rfl (fun i hi => by omega)
  obtain ⟨μ3, c1, c2, c3, c4⟩ := on_m (d + 18) (t := σ.t) (N := N) (by omega) (N - 1) 1 _ μ2 (by omega) (a2.keep b3 (fun _ => rfl)) b2
  have hs := (S845_G b3).tn c4
  have e := sum_m (d + 19) 81 0 μ3 rfl c2
  refine ⟨μ3, ?_, hm1.set0 ok (SG_Sc hs), SG_F hs⟩
  refine b1.trans ?_
  rw [B221_3]
  refine c1.trans ?_
  rw [B221_5]
  refine e.trans ?_
  rw [sm_congr 81 (g := fun _ => σ.t.M ^ (N - 1) * 1) (fun a ha => nxs_one _ _ _ a ha), sm_const, Int.mul_one, show ((81 : Nat) : Int) = 81 from rfl]

theorem dlt_m (d : Nat) (N : Int) (x2 : Int) {f : Nat} (hf : f < 81) : ∀ (n i : Nat) (μ : amM), i + n = 81 → VW 84 i (dlt f) μ → ∃ μ', At cr2 d 222 3 [] [71, N, x2, 0, (f : Int), (i : Int)] μ = At cr2 d 222 6 [] [71, N, x2, 0, (f : Int), 0] μ' ∧ VW 84 81 (dlt f) μ' ∧ same S845 μ μ'
  | 0, i, μ, hi, h => by
    rw [B222_3, if_neg (by omega)]
    rw [show i = 81 by omega] at h
    exact ⟨μ, rfl, h, same.rf⟩
  | n + 1, i, μ, hi, h => by
    obtain ⟨μ', g1, g2, g3⟩ := dlt_m d N x2 hf n (i + 1) (up μ 84 i (dlt f i)) (by omega) (fun k hk => by
      by_cases q : k = i
      · rw [q, up_eq]
        unfold dlt
        by_cases q2 : i = f
        · rw [if_pos q2, w64_1]
        · rw [if_neg q2, w64_0]
      · rw [up_ne _ _ _ _ (Or.inr q)]
        exact h k (by omega))
    refine ⟨μ', ?_, g2, (same.rf.up rfl).tn g3⟩
    have e : dlt f i = if i = f then 1 else 0 := rfl
    rw [B222_3, if_pos (by omega)]
    by_cases q : i = f
    · rw [if_pos (by omega), B222_5, wr_p (by omega) (by omega), Int.toNat_natCast, w32_i (by omega) (by omega)]
      rw [e, if_pos q] at g1
      exact g1
    · rw [if_neg (by omega), B222_4, B222_5, wr_p (by omega) (by omega), Int.toNat_natCast, w32_i (by omega) (by omega)]
      rw [e, if_neg q] at g1
      exact g1
theorem onr_m (d : Nat) {t : Tn} {N : Nat} (hN : N ≤ 9) (x2 : Int) (f : Int) : ∀ (n i : Nat) (v : Nat → Int) (μ : amM), i + n = N → GO t μ → VW 84 81 v μ → ∃ μ', At cr2 (d + 1) 222 7 [] [71, (N : Int), x2, 0, f, (i : Int)] μ = At cr2 (d + 1) 222 8 [] [71, (N : Int), x2, 0, f, 0] μ' ∧ VW 84 81 (t.nxs n v) μ' ∧ GO t μ' ∧ same SG μ μ'
  | 0, i, v, μ, hi, hg, hv => by
    rw [B222_7, if_neg (by omega)]
    exact ⟨μ, rfl, hv, hg, same.rf⟩
  | n + 1, i, v, μ, hi, hg, hv => by
    obtain ⟨μ1, g1, g2, g3⟩ := goesOn_e d hg hv
    obtain ⟨μ', k1, k2, k3, k4⟩ := onr_m d hN x2 f n (i + 1) _ μ1 (by omega) (hg.keep g3 (fun _ => rfl)) g2
    refine ⟨μ', ?_, k2, k3, (S845_G g3).tn k4⟩
    rw [B222_7, if_pos (by omega), g1, bnd_s, w32_i (by omega) (by omega)]
    exact k1
theorem end_m (d : Nat) {t : Tn} (N : Int) {v : Nat → Int} {f : Nat} (hf : f < 81) (A : Int) : ∀ (n i : Nat) (μ : amM), i + n = 81 → GO t μ → VW 84 81 v μ → At cr2 d 222 9 [] [71, N, w64 (A + sm i (fun a => t.G a f * v a)), 0, (f : Int), (i : Int)] μ = At cr2 d 222 12 [] [71, N, w64 (A + t.nx v f), 0, (f : Int), 0] μ
  | 0, i, μ, hi, hg, hv => by
    rw [B222_9, if_neg (by omega), show i = 81 by omega]
    rfl
  | n + 1, i, μ, hi, hg, hv => by
    have ih := end_m d N hf A n (i + 1) μ (by omega) hg hv
    rw [B222_9, if_pos (by omega), hg.rd (by omega) hf]
    rw [show A + sm (i + 1) (fun a => t.G a f * v a) = A + sm i (fun a => t.G a f * v a) + t.G i f * v i from (Int.add_assoc _ _ _).symm] at ih
    rcases G_01 t i f with q | q
    · rw [q, Int.zero_mul] at ih
      rw [if_pos q, B222_10, B222_11, w64_al, w32_i (by omega) (by omega)]
      exact ih
    · rw [q, Int.one_mul] at ih
      rw [if_neg (by rw [q]; decide), rd_p (by omega) (by omega), Int.toNat_natCast, hv i (by omega), B222_11, w64_al, w64_ar, w32_i (by omega) (by omega)]
      exact ih
theorem ring_m (d : Nat) {t : Tn} {N : Nat} (h1 : 1 ≤ N) (hN : N ≤ 9) : ∀ (n f : Nat) (μ : amM), f + n = 81 → GO t μ → ∃ μ', At cr2 (d + 1) 222 2 [] [71, (N : Int), w64 (sm f (fun f => t.nxs N (dlt f) f)), 0, (f : Int), 0] μ = some (w64 (sm 81 (fun f => t.nxs N (dlt f) f)), μ') ∧ same SG μ μ'
  | 0, f, μ, hf, hg => by
    rw [B222_2, if_neg (by omega), B222_13, show f = 81 by omega]
    exact ⟨μ, rfl, same.rf⟩
  | n + 1, f, μ, hf, hg => by
    obtain ⟨μ1, a1, a2, a3⟩ := dlt_m (d + 1) (N : Int) (w64 (sm f (fun f => t.nxs N (dlt f) f))) (show f < 81 by omega) 81 0 μ rfl (fun i hi => by omega)
    obtain ⟨μ2, b1, b2, b3, b4⟩ := onr_m d (N := N) hN (w64 (sm f (fun f => t.nxs N (dlt f) f))) (f : Int) (N - 1) 1 _ μ1 (by omega) (hg.keep a3 (fun _ => rfl)) a2
    have e := end_m (d + 1) (N : Int) (show f < 81 by omega) (sm f (fun f => t.nxs N (dlt f) f)) 81 0 μ2 rfl b3 b2
    obtain ⟨μ', k1, k2⟩ := ring_m d h1 hN n (f + 1) μ2 (by omega) b3
    refine ⟨μ', ?_, (S845_G a3).tn (b4.tn k2)⟩
    rw [B222_2, if_pos (by omega)]
    refine a1.trans ?_
    rw [B222_6]
    refine b1.trans ?_
    rw [B222_8]
    have e0 : sm f (fun f => t.nxs N (dlt f) f) + sm 0 (fun a => t.G a f * t.nxs (N - 1) (dlt f) a) = sm f (fun f => t.nxs N (dlt f) f) := Int.add_zero _
    rw [e0] at e
    refine e.trans ?_
    rw [B222_12, w32_i (by omega) (by omega), show t.nx (t.nxs (N - 1) (dlt f)) f = t.nxs N (dlt f) f from by
      rw [← nxs_succ, show N - 1 + 1 = N by omega]]
    exact k1
theorem rings_m (d : Nat) {σ : St} {μ : amM} (ok : σ.Ok) (h : MI σ μ) (n : Int) : OM μ (RD cr2 (d + 20) 222 [71, n] μ) (ringsS σ n) := by
  unfold ringsS
  rw [M222, in_e, bnd_s, ifb]
  refine OM.cd (fun hl => ?_) (fun _ => (OM.no _ ok h (by decide) (by decide)).bi (fun _ _ => rfl))
  obtain ⟨N, rfl, h1, h2⟩ := wi_an (by decide) hl
  rw [Int.toNat_natCast, B222_1]
  obtain ⟨μ1, a1, a2, a3⟩ := findGoes_e (d + 17) h.tm
  refine OM.bs a1 (OM.tr ?_ (SG_F (S86_G a3)))
  have hm1 := h.set0 ok (SG_Sc (S86_G a3))
  obtain ⟨μ2, b1, b2⟩ := ring_m (d + 18) (t := σ.t) (N := N) (by omega) (by omega) 81 0 μ1 rfl a2
  refine ⟨μ2, ?_, hm1.set0 ok (SG_Sc b2), SG_F b2⟩
  refine b1.trans ?_
  rw [ring_all]
