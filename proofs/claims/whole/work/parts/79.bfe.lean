/-! ===== the end of those loops; both are alike ===== -/
def Tn.gl (t : Tn) (f j : Nat) : Int := bif t.isR then bi (t.TT ((t.lots - 1 : Nat) : Int) ((0 : Nat) : Int) j f) else 1
def Tn.one (t : Tn) (f : Nat) : Int := sm (t.opt ((t.lots - 1 : Nat) : Int)) (fun j => t.gl f j * t.wk t.lots (t.lots - 1) 0 (dlt f) j)
theorem gl_01 (t : Tn) (f j : Nat) : t.gl f j = 0 ∨ t.gl f j = 1 := by
  unfold Tn.gl
  cases t.isR with
  | false => exact Or.inr rfl
  | true =>
    rw [cond_true]
    cases t.TT ((t.lots - 1 : Nat) : Int) ((0 : Nat) : Int) j f
    · exact Or.inl rfl
    · exact Or.inr rfl
theorem st_end (d : Nat) {t : Tn} {μ : amM} (ok : t.Ok) (h : TM 72 t μ) (hg : GO t μ) {v : Nat → Int} {B : Int} (hB : 0 ≤ B) (hv : Bd t ((t.lots - 1 : Nat) : Int) v B) (hr : RV 84 t ((t.lots - 1 : Nat) : Int) v 82 μ) {f : Nat} (hf : f ≤ 81) (pf : t.pr ((0 : Nat) : Int) f = true) : ∀ (n x : Nat), x + n = 82 → At cr2 (d + 4) 225 17 [] [71, (f : Int), (t.lots : Int), bi t.isR, w64 (sm x (fun x => t.gl (t.ix ((0 : Nat) : Int) f) (t.ix ((t.lots - 1 : Nat) : Int) x) * t.EX ((t.lots - 1 : Nat) : Int) v x)), 0, (x : Int)] μ = some (w64 (sm 82 (fun x => t.gl (t.ix ((0 : Nat) : Int) f) (t.ix ((t.lots - 1 : Nat) : Int) x) * t.EX ((t.lots - 1 : Nat) : Int) v x)), μ)
  | 0, x, hx => by
    rw [B225_17, if_pos (by omega), B225_21, show x = 82 by omega]
  | n + 1, x, hx => by
    have h64 := ok.le
    have eb := EX_B hB hv (x := x) (by omega)
    have ih := st_end d ok h hg hB hv hr hf pf n (x + 1) (by omega)
    have es : ∀ w, w = t.gl (t.ix ((0 : Nat) : Int) f) (t.ix ((t.lots - 1 : Nat) : Int) x) * t.EX ((t.lots - 1 : Nat) : Int) v x → At cr2 (d + 4) 225 20 [w, w64 (sm x (fun x => t.gl (t.ix ((0 : Nat) : Int) f) (t.ix ((t.lots - 1 : Nat) : Int) x) * t.EX ((t.lots - 1 : Nat) : Int) v x))] [71, (f : Int), (t.lots : Int), bi t.isR, 0, 0, (x : Int)] μ = some (w64 (sm 82 (fun x => t.gl (t.ix ((0 : Nat) : Int) f) (t.ix ((t.lots - 1 : Nat) : Int) x) * t.EX ((t.lots - 1 : Nat) : Int) v x)), μ) := fun w hw => by
      rw [B225_20, w64_al, hw, w32_i (by omega) (by omega)]
      exact ih
    rw [B225_17, if_neg (by omega), rd_p (by omega) (by omega), Int.toNat_natCast, hr x (by omega)]
    by_cases q : t.EX ((t.lots - 1 : Nat) : Int) v x = 0
    · rw [q, if_neg sgn_0, B225_19]
      exact es 0 (by rw [q, Int.mul_zero])
    · have px : t.pr ((t.lots - 1 : Nat) : Int) x = true := by
        rw [EX_pr v (by omega)] at q
        cases e : t.pr ((t.lots - 1 : Nat) : Int) x with
        | true => rfl
        | false => rw [e] at q; exact absurd rfl q
      rw [if_pos (sgn_p eb.1 q)]
      cases hR : t.isR with
      | false =>
        rw [hR] at es
        rw [if_pos (by rfl), B225_18, rd_p (by omega) (by omega), Int.toNat_natCast, hr x (by omega)]
        exact es _ (by
          unfold Tn.gl
          rw [hR, cond_false, Int.one_mul])
      | true =>
        rw [hR] at es
        have pe := pass_e (d + 1) ok h hg (show t.lots - 1 < t.lots by omega) (show 0 < t.lots by omega) (show x ≤ 81 by omega) hf px pf
        have pe' : RD cr2 (d + 4) 223 [71, ((t.lots - 1 : Nat) : Int), (x : Int), 0, (f : Int)] μ = _ := pe
        rw [if_neg (by decide), w32_i (by omega) (by omega), show (t.lots : Int) - 1 = ((t.lots - 1 : Nat) : Int) by omega, pe', bnd_s]
        cases e : t.TT ((t.lots - 1 : Nat) : Int) ((0 : Nat) : Int) (t.ix ((t.lots - 1 : Nat) : Int) x) (t.ix ((0 : Nat) : Int) f) with
        | false =>
          rw [if_pos (by rfl), B225_19]
          exact es 0 (by
            unfold Tn.gl
            rw [hR, cond_true, e, show bi false = 0 from rfl, Int.zero_mul])
        | true =>
          rw [if_neg (by decide), B225_18, rd_p (by omega) (by omega), Int.toNat_natCast, hr x (by omega)]
          exact es _ (by
            unfold Tn.gl
            rw [hR, cond_true, e, show bi true = 1 from rfl, Int.one_mul])
theorem one_e (d : Nat) {t : Tn} {μ : amM} (ok : t.Ok) (h1 : t.rows = 1) (h : TM 72 t μ) (hg : GO t μ) {f : Nat} (hf : f ≤ 81) (pf : t.pr ((0 : Nat) : Int) f = true) : ∃ μ', RD cr2 (d + 5) 225 [71, (f : Int)] μ = some (w64 (t.one (t.ix ((0 : Nat) : Int) f)), μ') ∧ same S845 μ μ' ∧ TM 72 t μ' ∧ GO t μ' := by
  have h64 := ok.le
  have hr := ok.1
  have hl : t.lots = t.cols := by
    unfold Tn.lots
    rw [h1, Nat.one_mul]
  have e1 : μ 72 1 = (t.lots : Int) := by rw [hl]; exact h.1.2.1
  obtain ⟨μ1, a1, a2, a3⟩ := st_beg (d + 4) hf pf (t.lots : Int) 82 0 μ rfl (fun k hk => by omega)
  have g1 := (hg.keep a3 (fun _ => rfl))
  have t1 := h.k5 ok (S845_G a3)
  have bd : Bd t ((0 : Nat) : Int) (dlt (t.ix ((0 : Nat) : Int) f)) 1 := fun j _ => one_if _
  have p8 : (1 : Int) * 81 ^ (t.lots - 1) < 9223372036854775808 := by
    exact (show ∀ k, k < 8 → (1 : Int) * 81 ^ k < 9223372036854775808 from by decide) (t.lots - 1) (by omega)
  obtain ⟨μ2, b1, b2, b3, b4⟩ := st_all (d + 1) ok (f : Int) (t.lots - 1) 0 _ 1 μ1 (by omega) (by decide) p8 bd t1 g1 a2
  have t2 := t1.k5 ok (S845_G b4)
  have g2 := g1.keep b4 (fun _ => rfl)
  have c1 := st_end d ok t2 g2 (Int.mul_nonneg (by decide) (Int.le_of_lt (Int.pow_pos (by decide)))) b3 b2 hf pf 82 0 rfl
  rw [sum82 (t := t) (L := ((t.lots - 1 : Nat) : Int)) (fun j => t.gl (t.ix ((0 : Nat) : Int) f) j)] at c1
  refine ⟨μ2, ?_, a3.tn b4, t2, g2⟩
  rw [M225, e1]
  refine a1.trans ?_
  rw [B225_4]
  refine b1.trans ?_
  have e2 : μ2 72 2 = (t.shape : Int) := t2.1.2.2.1
  have e16 : At cr2 (d + 4) 225 16 [bi t.isR] [71, (f : Int), (t.lots : Int), 0, 0, 0, 0] μ2 = some (w64 (t.one (t.ix ((0 : Nat) : Int) f)), μ2) := by
    rw [B225_16]
    have e0 : w64 (sm 0 (fun x => t.gl (t.ix ((0 : Nat) : Int) f) (t.ix ((t.lots - 1 : Nat) : Int) x) * t.EX ((t.lots - 1 : Nat) : Int) (t.wk t.lots (t.lots - 1) 0 (dlt (t.ix ((0 : Nat) : Int) f))) x)) = 0 := w64_0
    rw [e0] at c1
    exact c1
  rw [B225_14, e2]
  by_cases q1 : 0 < (t.shape : Int)
  · rw [if_pos q1]
    by_cases q2 : 2 < (t.lots : Int)
    · rw [if_pos q2]
      rw [show t.isR = true by unfold Tn.isR; rw [decide_eq_true (p := 3 ≤ t.cols) (by omega), decide_eq_true (p := 0 < t.shape) (by omega)]; rfl] at e16
      exact e16
    · rw [if_neg q2, B225_15]
      rw [show t.isR = false by unfold Tn.isR; rw [decide_eq_false (p := 3 ≤ t.cols) (by omega), Bool.and_false]] at e16
      exact e16
  · rw [if_neg q1, B225_15]
    rw [show t.isR = false by unfold Tn.isR; rw [decide_eq_false (p := 0 < t.shape) (by omega), Bool.false_and]] at e16
    exact e16

theorem all_m (d : Nat) {t : Tn} (ok : t.Ok) (h1 : t.rows = 1) : ∀ (n x : Nat) (μ : amM), x + n = 82 → TM 72 t μ → GO t μ → ∃ μ', At cr2 (d + 6) 226 3 [] [71, w64 (sm x (t.EX ((0 : Nat) : Int) t.one)), 0, (x : Int)] μ = some (w64 (sm 82 (t.EX ((0 : Nat) : Int) t.one)), μ') ∧ same S845 μ μ'
  | 0, x, μ, hx, h, hg => by
    rw [B226_3, if_pos (by omega), B226_6, show x = 82 by omega]
    exact ⟨μ, rfl, same.rf⟩
  | n + 1, x, μ, hx, h, hg => by
    have h64 := ok.le
    have ew : sm (x + 1) (t.EX ((0 : Nat) : Int) t.one) = sm x (t.EX ((0 : Nat) : Int) t.one) + t.EX ((0 : Nat) : Int) t.one x := rfl
    have e5 : ∀ (w : Int) (μ1 : amM), w64 (sm x (t.EX ((0 : Nat) : Int) t.one) + w) = w64 (sm x (t.EX ((0 : Nat) : Int) t.one) + t.EX ((0 : Nat) : Int) t.one x) → TM 72 t μ1 → GO t μ1 → same S845 μ μ1 → ∃ μ', At cr2 (d + 6) 226 5 [w, w64 (sm x (t.EX ((0 : Nat) : Int) t.one))] [71, 0, 0, (x : Int)] μ1 = some (w64 (sm 82 (t.EX ((0 : Nat) : Int) t.one)), μ') ∧ same S845 μ μ' := fun w μ1 hw hm hg1 hs => by
      obtain ⟨μ', k1, k2⟩ := all_m d ok h1 n (x + 1) μ1 (by omega) hm hg1
      refine ⟨μ', ?_, hs.tn k2⟩
      rw [B226_5, w64_al, hw, w32_i (by omega) (by omega)]
      exact k1
    have al := allow_e (d + 4) ok h (show 0 < t.lots by omega) x
    have al' : RD cr2 (d + 6) 224 [71, 0, (x : Int)] μ = _ := al
    rw [B226_3, if_neg (by omega), al', bnd_s]
    rw [EX_pr t.one (show x ≤ 81 by omega)] at e5
    cases q : t.pr ((0 : Nat) : Int) x with
    | false =>
      rw [q, cond_false] at e5
      rw [if_pos (by rfl), B226_4]
      exact e5 0 μ rfl h hg same.rf
    | true =>
      rw [q, cond_true] at e5
      obtain ⟨μ1, g1, g2, g3, g4⟩ := one_e (d + 1) ok h1 h hg (show x ≤ 81 by omega) q
      rw [if_neg (by decide), g1, bnd_s]
      exact e5 _ μ1 (w64_ar _ _) g3 g4 g2
theorem before_m0 (d : Nat) {σ : St} {μ : amM} (ok : σ.Ok) (h : MI σ μ) : OM μ (RD cr2 (d + 20) 226 [71] μ) (if σ.t.rows = 1 then (w64 (sm (σ.t.opt ((0 : Nat) : Int)) σ.t.one), σ) else σ.no 3) := by
  have hr := ok.t.1
  have e0 : μ 72 0 = (σ.t.rows : Int) := h.tm.1.1
  have no3 : OM μ (At cr2 (d + 19) 226 1 [] [71, 0, 0, 0] μ) (σ.no 3) := by
    rw [B226_1]
    exact (OM.no _ ok h (by decide) (by decide)).bi (fun _ _ => rfl)
  rw [M226, e0]
  by_cases q : σ.t.rows = 1
  · have hl : σ.t.lots = σ.t.cols := by
      unfold Tn.lots
      rw [q, Nat.one_mul]
    rw [if_pos (by omega), if_pos q, mLots_e _ ok.t h.tm, bnd_s, if_neg (by omega), B226_2]
    obtain ⟨μ1, a1, a2, a3⟩ := findGoes_e (d + 17) h.tm
    refine OM.bs a1 (OM.tr ?_ (SG_F (S86_G a3)))
    have hm1 := h.set0 ok (SG_Sc (S86_G a3))
    obtain ⟨μ', k1, k2⟩ := all_m (d + 13) ok.t q 82 0 μ1 rfl hm1.tm a2
    refine ⟨μ', ?_, hm1.set0 ok (SG_Sc (S845_G k2)), SG_F (S845_G k2)⟩
    have es := sum82 (t := σ.t) (L := ((0 : Nat) : Int)) (fun _ => 1) σ.t.one
    simp only [Int.one_mul] at es
    have e0 : w64 (sm 0 (σ.t.EX ((0 : Nat) : Int) σ.t.one)) = 0 := w64_0
    rw [e0, show sm 82 (σ.t.EX ((0 : Nat) : Int) σ.t.one) = sm (σ.t.opt ((0 : Nat) : Int)) σ.t.one from es] at k1
    have k2 : At cr2 (d + 19) 226 3 [] [71, 0, 0, 0] μ1 = some (w64 (sm (σ.t.opt ((0 : Nat) : Int)) σ.t.one), μ') := k1
    rw [k2]
  · rw [if_neg (by omega), if_neg q]
    exact no3
