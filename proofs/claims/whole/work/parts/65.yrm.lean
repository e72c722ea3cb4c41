/-! ===== worth, years, of the reference ===== -/
theorem worth_mloop (d : Nat) {σ : St} (ok : σ.Ok) : ∀ (n i : Nat) (a : Int) (μ : amM), i + n = σ.t.lots → MI σ μ → -100 * (i : Int) ≤ a → a ≤ 100 * (i : Int) → ∃ μ', At cr2 (d + 69) 236 1 [] [71, a, (i : Int)] μ = some (wsm σ.k n i a, μ') ∧ MI σ μ' ∧ same FM μ μ'
  | 0, i, a, μ, hi, h, h1, h2 => by
    rw [B236_1, mLots_e _ ok.t h.tm, bnd_s, if_neg (by omega), B236_4]
    exact ⟨μ, rfl, h, same.rf⟩
  | n + 1, i, a, μ, hi, h, h1, h2 => by
    have h64 := ok.t.le.2
    have hil : i < σ.t.lots := by omega
    rw [B236_1, mLots_e _ ok.t h.tm, bnd_s, if_pos (by omega), mEmpty_e _ ok.t h.tm hil, bnd_s]
    unfold wsm
    by_cases q : σ.t.kind i = -1
    · rw [q, if_neg (by decide), if_pos (show σ.k.t.kind i = -1 from q), B236_3, w32_i (x := a + 0) (by omega) (by omega), w32_i (by omega) (by omega), Int.add_zero]
      exact worth_mloop d ok n (i + 1) a μ (by omega) h (by omega) (by omega)
    · have wR : -99 ≤ σ.k.wor (σ.t.code i) ∧ σ.k.wor (σ.t.code i) ≤ 99 := wth_R _ _ _ _ _
      obtain ⟨μ1, g1, g2⟩ := mWorthOf_e (d + 1) ok.1 ok.t h.tm h.1.2.2.2.1.2 hil q
      obtain ⟨μ2, f1, f2, f3⟩ := worth_mloop d ok n (i + 1) (a + σ.k.wor (σ.t.code i)) μ1 (by omega) (h.set0 ok (STg_Sc g2)) (by omega) (by omega)
      rw [beq_false_of_ne q, if_pos (show bi false = 0 from rfl), if_neg (show ¬ σ.k.t.kind i = -1 from q), B236_2, g1, bnd_s, B236_3, w32_i (x := a + σ.k.wor (σ.t.code i)) (by omega) (by omega), w32_i (by omega) (by omega)]
      exact ⟨μ2, f1, f2, (STg_F g2).tr f3⟩
theorem worth_m (d : Nat) {σ : St} {μ : amM} (ok : σ.Ok) (h : MI σ μ) : OM μ (RD cr2 (d + 70) 236 [71] μ) (worthS σ) := by
  obtain ⟨μ', g1, g2, g3⟩ := worth_mloop d ok σ.t.lots 0 0 μ (Nat.zero_add _) h (by decide) (by decide)
  rw [M236]
  exact ⟨μ', g1, g2, g3⟩
theorem mCan_e (d : Nat) {t : Tn} {μ : amM} (ok : t.Ok) (h : TM 72 t μ) {lot k : Nat} (hl : lot < t.lots) (hk : k < 4) (s : Int) : RD cr2 (d + 3) 213 [71, (lot : Int), (k : Int), s] μ = some (bi (t.can lot k s), μ) := by
  have one : At cr2 (d + 2) 213 1 [] [0, 0, 0, 0] μ = some (0, μ) := by rw [B213_1, B213_2]; rfl
  unfold Tn.can
  rw [M213, mBound_e _ ok h hl, bnd_s]
  cases hb : t.bound lot with
  | false => rw [if_pos (show bi false = 0 from rfl), one]; rfl
  | true =>
    rw [if_neg (show ¬ bi true = 0 from by decide), mMark_e _ ok h hl hk (Tn.bound_ne hb), bnd_s]
    by_cases q : mk (t.code lot) k = s
    · rw [if_pos q, one, q, beq_self_eq_true]; rfl
    · rw [if_neg q, B213_2, beq_false_of_ne q]; rfl
/-- cells of the pairs that were found -/
def SPf (c i : Nat) : Bool := Nat.beq c 76 || Nat.beq c 77 || (Nat.beq c 71 && Nat.beq i 13)
theorem PF.kp {l : List (Nat × Nat)} {μ μ' : amM} (h : PF l μ) (h1 : μ' 71 13 = μ 71 13) (h2 : μ' 76 = μ 76) (h3 : μ' 77 = μ 77) : PF l μ' := by
  refine ⟨h1.trans h.1, fun i hi => ?_⟩
  rw [h2, h3]
  exact h.2 i hi
theorem PF.s {l : List (Nat × Nat)} {S : Nat → Nat → Bool} {μ μ' : amM} (h : PF l μ) (hs : same S μ μ') (h1 : S 71 13 = false) (h2 : ∀ i, S 76 i = false) (h3 : ∀ i, S 77 i = false) : PF l μ' := h.kp (hs _ _ h1) (funext fun i => hs _ _ (h2 i)) (funext fun i => hs _ _ (h3 i))
theorem PF.u {l : List (Nat × Nat)} {μ : amM} (h : PF l μ) (i : Nat) (v : Int) : PF l (up μ 72 i v) := h.kp rfl rfl rfl
/-- the town with one mark changed: whether all is right there -/
theorem try_e (d : Nat) {σ : St} {μ : amM} (ok : σ.Ok) (h : MI σ μ) (hp : PF σ.t.prs μ) {n a : Nat} (hn : n < σ.t.lots) (ha : a < 4) {s : Int} (hs : 0 ≤ s ∧ s < 4) (ne : σ.t.kind n ≠ -1) : MI (σ.setT (σ.t.cod n (ws (σ.t.code n) a s))) (up μ 72 (148 + 4 * n + a) s) ∧ (σ.setT (σ.t.cod n (ws (σ.t.code n) a s))).Ok ∧ PF (σ.t.cod n (ws (σ.t.code n) a s)).prs (up μ 72 (148 + 4 * n + a) s) := by
  have h64 := ok.t.le.2
  have hcd := ((ok.t.2 n hn).2 ne).2.2
  exact ⟨h.setT ok (SM3_T (by omega) ha _) (TM.sets ok.t h.tm hn ne ha hs), ok.setT (cod_ok ok.t hn (mk_ws hcd ha hs (j := 0) (by decide)).2), hp.u _ _⟩
theorem untry_e (d : Nat) {σ : St} {μ : amM} (ok : σ.Ok) {n a : Nat} (hn : n < σ.t.lots) (ha : a < 4) {s : Int} (hs : 0 ≤ s ∧ s < 4) (ne : σ.t.kind n ≠ -1) (h : MI (σ.setT (σ.t.cod n (ws (σ.t.code n) a s))) μ) : MI σ (up μ 72 (148 + 4 * n + a) (mk (σ.t.code n) a)) := by
  have h64 := ok.t.le.2
  have hcd := ((ok.t.2 n hn).2 ne).2.2
  have oks : (σ.setT (σ.t.cod n (ws (σ.t.code n) a s))).Ok := ok.setT (cod_ok ok.t hn (mk_ws hcd ha hs (j := 0) (by decide)).2)
  show MI ((σ.setT (σ.t.cod n (ws (σ.t.code n) a s))).setT σ.t) _
  exact h.setT oks (SM3_T (by omega) ha _) (TM.unset ok.t hn ne ha hs h.tm)
theorem MI.addY {σ : St} {μ : amM} (ok : σ.Ok) (h : MI σ μ) (v : Int) : MI (_root_.Jvm.Pilot.@@N@@.addY σ v) (up μ 72 5 (σ.k.y + v)) := by
  have q := h.1.2.2.2.2
  exact h.setY ok (same.rf.up rfl) ⟨up_eq _ _ _ _, q.2.1, q.2.2⟩
theorem year_m (d : Nat) {σ : St} {μ : amM} (ok : σ.Ok) (hy : σ.k.y < 9999) (h : MI σ μ) (hp : PF σ.t.prs μ) : ∃ μ', RD cr2 (d + 75) 238 [71] μ = some (bi σ.yok, μ') ∧ MI (addY σ.yst 1) μ' ∧ PF σ.t.prs μ' ∧ same FM μ μ' := by
  obtain ⟨r1, r2, r3, r4, t1, t2, t3⟩ := yR ok
  have h64 := ok.t.le
  have hy0 := ok.1.2.2.2.2.1
  have oz : ∀ z, i32 z → (σ.setY σ.k.y σ.k.s z).Ok := fun z hz => ok.setY hy0 ok.1.2.2.2.2.2.1 hz
  obtain ⟨a1, a2, a3⟩ := draw_m (d + 73) ok h
  obtain ⟨b1, b2, b3⟩ := draw_m (d + 73) (oz _ (drw_i _)) a2
  obtain ⟨c1, c2, c3⟩ := draw_m (d + 73) (oz _ (drw_i _)) b2
  have a1 : RD cr2 (d + 74) 227 [71] μ = some (dv σ.z1, up μ 72 7 σ.z1) := a1
  have b1 : RD cr2 (d + 74) 227 [71] (up μ 72 7 σ.z1) = some (dv σ.z2, up (up μ 72 7 σ.z1) 72 7 σ.z2) := b1
  have c1 : RD cr2 (d + 74) 227 [71] (up (up μ 72 7 σ.z1) 72 7 σ.z2) = some (dv σ.z3, up (up (up μ 72 7 σ.z1) 72 7 σ.z2) 72 7 σ.z3) := c1
  have c2 : MI (σ.setY σ.k.y σ.k.s σ.z3) (up (up (up μ 72 7 σ.z1) 72 7 σ.z2) 72 7 σ.z3) := c2
  have oky := oz σ.z3 (drw_i _)
  have h5 : MI (addY (σ.setY σ.k.y σ.k.s σ.z3) 1) (up (up (up (up μ 72 7 σ.z1) 72 7 σ.z2) 72 7 σ.z3) 72 5 (σ.k.y + 1)) := c2.addY oky 1
  have ok5 : (addY (σ.setY σ.k.y σ.k.s σ.z3) 1).Ok := oky.setY (by show 0 ≤ σ.k.y + 1 ∧ σ.k.y + 1 ≤ 9999; omega) ok.1.2.2.2.2.2.1 (drw_i _)
  have p5 : PF σ.t.prs (up (up (up (up μ 72 7 σ.z1) 72 7 σ.z2) 72 7 σ.z3) 72 5 (σ.k.y + 1)) := (((hp.u _ _).u _ _).u _ _).u _ _
  have f5 : same FM μ (up (up (up (up μ 72 7 σ.z1) 72 7 σ.z2) 72 7 σ.z3) 72 5 (σ.k.y + 1)) := ((a3.tr b3).tr c3).tr FM_up
  have e5 : (up (up (up μ 72 7 σ.z1) 72 7 σ.z2) 72 7 σ.z3) 72 5 = σ.k.y := c2.1.2.2.2.2.1
  have hcan := mCan_e (d + 71) ok.t h5.tm (lot := σ.yl) (k := σ.ym) r1 r2 σ.ys
  have hlots : RD cr2 (d + 74) 153 [71] (up μ 72 7 σ.z1) = some ((σ.t.lots : Int), up μ 72 7 σ.z1) := mLots_e (d + 73) ok.t a2.tm
  rw [M238, a1, bnd_s, hlots, bnd_s, if_neg (by omega), b1, bnd_s, c1, bnd_s, wf_e, e5, w32_i (x := σ.k.y + 1) (by omega) (by omega), t1, t2, t3, hcan, bnd_s]
  cases hc : σ.t.can σ.yl σ.ym σ.ys with
  | false =>
    have hq : σ.yok = false := by
      unfold St.yok Tn.lawful
      rw [hc]; rfl
    have ey : σ.yst = σ.setY σ.k.y σ.k.s σ.z3 := by unfold St.yst; rw [hq]; rfl
    rw [if_pos (show bi false = 0 from rfl), hq, ey]
    exact ⟨_, rfl, h5, p5, f5⟩
  | true =>
    obtain ⟨hb, ne, n5, -⟩ := can_5 hc
    obtain ⟨k1, k2, k3⟩ := try_e d ok5 h5 p5 (n := σ.yl) (a := σ.ym) (s := σ.ys) r1 r2 (by omega) ne
    obtain ⟨μ7, m1, m2, m3⟩ := isAllRight_e (d + 69) k2.t k1.tm k3
    have h7 := k1.set0 k2 (S71w_Sc m3)
    have p7 : PF σ.t.prs μ7 := k3.s m3 rfl (fun _ => rfl) (fun _ => rfl)
    have el := lawful_wl ok.t r1 hb (ws (σ.t.code σ.yl) σ.ym σ.ys)
    have eq : σ.yok = ((σ.t.cod σ.yl (ws (σ.t.code σ.yl) σ.ym σ.ys)).wl.length == 0) := by
      rw [el]
      unfold St.yok Tn.lawful
      rw [hc, Bool.true_and]
    have hm := mMark_e (d + 73) ok.t h5.tm (lot := σ.yl) (k := σ.ym) r1 r2 ne
    have m1 : RD cr2 (d + 74) 181 [71] (up (up (up (up (up μ 72 7 σ.z1) 72 7 σ.z2) 72 7 σ.z3) 72 5 (σ.k.y + 1)) 72 (148 + 4 * σ.yl + σ.ym) σ.ys) = some (bi σ.yok, μ7) := by
      rw [eq]
      exact m1
    rw [if_neg (show ¬ bi true = 0 from by decide), B238_1, hm, bnd_s, sets_e _ ok.t r1 r2, bnd_s, m1, bnd_s]
    cases hq : σ.yok with
    | false =>
      have ey : σ.yst = σ.setY σ.k.y σ.k.s σ.z3 := by unfold St.yst; rw [hq]; rfl
      rw [if_pos (show bi false = 0 from rfl), B238_2, sets_e _ ok.t r1 r2, bnd_s, ey]
      exact ⟨_, rfl, untry_e d ok5 (n := σ.yl) (a := σ.ym) (s := σ.ys) r1 r2 (by omega) ne h7, p7.u _ _, ((f5.tr FM_up).tr (S71w_F m3)).tr FM_up⟩
    | true =>
      obtain ⟨μ8, g1, g2⟩ := mCostOf_e (d + 6) k2.1 h7.tm h7.1.2.2.2.1.1 (lot := σ.yl) r1 (show (σ.t.cod σ.yl (ws (σ.t.code σ.yl) σ.ym σ.ys)).kind σ.yl ≠ -1 by rw [cod_kind]; exact ne) σ.ym
      have h8 := h7.set0 k2 (STg_Sc g2)
      have ec : ((addY (σ.setY σ.k.y σ.k.s σ.z3) 1).setT (σ.t.cod σ.yl (ws (σ.t.code σ.yl) σ.ym σ.ys))).k.cost σ.yl σ.ym = σ.k.cost σ.yl σ.ym := cost_cod (addY (σ.setY σ.k.y σ.k.s σ.z3) 1) σ.yl _ σ.yl σ.ym
      have g1 : RD cr2 (d + 74) 185 [71, (σ.yl : Int), (σ.ym : Int)] μ7 = some (σ.k.cost σ.yl σ.ym, μ8) := by
        rw [← ec]
        exact g1
      have cR := cost_R ok.1 (lot := σ.yl) r1 ne σ.ym
      have := cR.2.2 n5
      obtain ⟨μ9, w1, w2, w3⟩ := spends_e (d + 72) k2 h8 (v := σ.k.cost σ.yl σ.ym) (by omega)
      have ey : σ.yst = (σ.setY σ.k.y σ.k.s σ.z3).chg σ.yl σ.ym σ.ys := by unfold St.yst; rw [hq]; rfl
      rw [if_neg (show ¬ bi true = 0 from by decide), g1, bnd_s, w1, bnd_s, ey]
      refine ⟨μ9, rfl, w2, ?_, (((f5.tr FM_up).tr (S71w_F m3)).tr (STg_F g2)).tr w3⟩
      have p8 : PF σ.t.prs μ8 := p7.s g2 rfl (fun _ => rfl) (fun _ => rfl)
      have hs0 := ok.1.2.2.2.2.2.1
      have q8 := h8.1.2.2.2.2
      have e9 : RD cr2 (d + 74) 198 [71, σ.k.cost σ.yl σ.ym] μ8 = some (0, up μ8 72 6 (max 0 (min 999999 (σ.k.s + σ.k.cost σ.yl σ.ym)))) := by
        have e6 : μ8 72 6 = σ.k.s := q8.2.1
        rw [M198, e6, w32_i (by omega) (by omega), held_e _ _ _ _ (by decide), bnd_s, wf_e]
      rw [e9] at w1
      have w1 := congrArg Prod.snd (Option.some.inj w1)
      have w1 : up μ8 72 6 (max 0 (min 999999 (σ.k.s + σ.k.cost σ.yl σ.ym))) = μ9 := w1
      rw [← w1]
      exact p8.u _ _
theorem yok_addY (σ : St) (a : Int) : (addY σ a).yok = σ.yok := rfl
theorem yst_addY (σ : St) (a : Int) : (addY σ a).yst = addY σ.yst a := by
  unfold St.yst
  rw [yok_addY]
  cases σ.yok <;> rfl
theorem addY_add (σ : St) (a b : Int) : addY (addY σ a) b = addY σ (a + b) := by
  have e : σ.k.y + a + b = σ.k.y + (a + b) := by omega
  show ((addY σ a).setY (σ.k.y + a + b) σ.k.s σ.k.z) = _
  rw [e]
  rfl
theorem prs_yst (σ : St) : σ.yst.t.prs = σ.t.prs := by
  unfold St.yst
  cases σ.yok <;> rfl
theorem years_mloop (d : Nat) (N : Nat) (hN : N ≤ 200) : ∀ (n i c : Nat) (σ : St) (μ : amM), i + n = N → c ≤ i → σ.Ok → σ.k.y + N ≤ 9999 → MI (addY σ (i : Int)) μ → PF σ.t.prs μ → ∃ μ', At cr2 (d + 75) 239 3 [] [71, (N : Int), (c : Int), (i : Int)] μ = some (((yrs n σ c).1 : Int), μ') ∧ MI (addY (yrs n σ c).2 (N : Int)) μ' ∧ same FM μ μ'
  | 0, i, c, σ, μ, hi, hc, ok, hy, h, hp => by
    have hi : i = N := by omega
    subst hi
    rw [B239_3, if_neg (by omega), B239_6]
    exact ⟨μ, rfl, h, same.rf⟩
  | n + 1, i, c, σ, μ, hi, hc, ok, hy, h, hp => by
    have hy0 := ok.1.2.2.2.2.1
    have ok1 : (addY σ (i : Int)).Ok := ok.setY (by omega) ok.1.2.2.2.2.2.1 ok.1.2.2.2.2.2.2
    obtain ⟨μ1, g1, g2, g3, g4⟩ := year_m d ok1 (show σ.k.y + (i : Int) < 9999 by omega) h hp
    rw [yok_addY] at g1
    rw [yst_addY, addY_add] at g2
    obtain ⟨μ2, f1, f2, f3⟩ := years_mloop d N hN n (i + 1) (c + (bif σ.yok then 1 else 0)) σ.yst μ1 (by omega) (by cases σ.yok <;> simp <;> omega) (yst_ok ok) (by rw [yst_y]; exact hy) g2 (by rw [prs_yst]; exact g3)
    rw [B239_3, if_pos (by omega), g1, bnd_s]
    unfold yrs
    cases hq : σ.yok with
    | false =>
      rw [hq] at f1 f2
      rw [if_pos (show bi false = 0 from rfl), B239_4, B239_5, w32_i (x := (c : Int) + 0) (by omega) (by omega), w32_i (by omega) (by omega)]
      exact ⟨μ2, f1, f2, g4.tr f3⟩
    | true =>
      rw [hq] at f1 f2
      rw [if_neg (show ¬ bi true = 0 from by decide), B239_5, w32_i (x := (c : Int) + 1) (by omega) (by omega), w32_i (by omega) (by omega)]
      exact ⟨μ2, f1, f2, g4.tr f3⟩
theorem years_m (d : Nat) {σ : St} {μ : amM} (ok : σ.Ok) (h : MI σ μ) (n : Int) : OM μ (RD cr2 (d + 80) 239 [71, n] μ) (yearsS σ n) := by
  have hy := ok.1.2.2.2.2.1
  have e5 := h.1.2.2.2.2.1
  unfold yearsS
  rw [M239, in_e, bnd_s, ifb]
  refine OM.cd (fun hn => ?_) (fun _ => (OM.no _ ok h (by decide) (by decide)).bi (fun _ _ => rfl))
  obtain ⟨m, rfl, hm, hm2⟩ := wi1_n hn
  rw [B239_1, e5, w32_i (by omega) (by omega)]
  by_cases q : 9999 < σ.k.y + m
  · rw [if_pos q, if_pos q]
    exact (OM.no _ ok h (by decide) (by decide)).bi (fun _ _ => rfl)
  · obtain ⟨μ1, a1, a2, a3⟩ := findPairs_e (d + 77) ok.t h.tm
    have h1 := h.set0 ok (SP_Sc a3)
    have e0 : addY σ ((0 : Nat) : Int) = σ := by
      show σ.setY (σ.k.y + 0) σ.k.s σ.k.z = σ
      rw [Int.add_zero]
      rfl
    obtain ⟨μ2, g1, g2, g3⟩ := years_mloop (d + 4) m (by omega) m 0 0 σ μ1 (Nat.zero_add _) (Nat.le_refl _) ok (by omega) (by rw [e0]; exact h1) a2
    rw [if_neg q, if_neg q, B239_2, a1, bnd_s, Int.toNat_natCast]
    exact ⟨μ2, g1, g2, (SP_F a3).tr g3⟩
