/-! ===== costs, worths ===== -/
def K.cost (k : K) (lot mark : Nat) : Int := if k.t.kind lot = 1 then cst k mark (k.t.m lot) / 2 else if k.t.kind lot = 2 then cst k mark (k.t.m lot) * 2 else if k.t.kind lot = 3 then k.t.m lot else if k.t.kind lot = 4 then cst k mark (k.t.m lot) / 2 + 5 else if k.t.kind lot = 5 then -1 else if k.t.kind lot = 6 then max 0 (k.t.m lot - 3) else cst k mark (k.t.m lot)
def K.wor (k : K) (c : Int) : Int := wth k (mk c 0) (mk c 1) (mk c 2) (mk c 3)
theorem cst_R (k : K) (a b : Int) : 0 ≤ cst k a b ∧ cst k a b ≤ 99 := by
  unfold cst
  omega
theorem wth_R (k : K) (a b c e : Int) : -99 ≤ wth k a b c e ∧ wth k a b c e ≤ 99 := by
  unfold wth
  split <;> omega
theorem cost_R {k : K} (ok : k.Ok) {lot : Nat} (hl : lot < k.t.lots) (ne : k.t.kind lot ≠ -1) (mark : Nat) : -1 ≤ k.cost lot mark ∧ k.cost lot mark ≤ 198 ∧ (k.t.kind lot ≠ 5 → 0 ≤ k.cost lot mark) := by
  have hm := (ok.1.2 lot hl).2 ne
  have hc := cst_R k mark (k.t.m lot)
  unfold K.cost
  by_cases q1 : k.t.kind lot = 1
  · rw [if_pos q1]; omega
  · by_cases q2 : k.t.kind lot = 2
    · rw [if_neg q1, if_pos q2]; omega
    · by_cases q3 : k.t.kind lot = 3
      · rw [if_neg q1, if_neg q2, if_pos q3]; omega
      · by_cases q4 : k.t.kind lot = 4
        · rw [if_neg q1, if_neg q2, if_neg q3, if_pos q4]; omega
        · by_cases q5 : k.t.kind lot = 5
          · rw [if_neg q1, if_neg q2, if_neg q3, if_neg q4, if_pos q5]; omega
          · by_cases q6 : k.t.kind lot = 6
            · rw [if_neg q1, if_neg q2, if_neg q3, if_neg q4, if_neg q5, if_pos q6]; omega
            · rw [if_neg q1, if_neg q2, if_neg q3, if_neg q4, if_neg q5, if_neg q6]; omega
theorem costOf_e (d : Nat) {k : K} {μ : amM} (ok : k.Ok) (h : TC 2 k.t μ) (h13 : TX 13 0 k.x0 μ) {lot : Nat} (hl : lot < k.t.lots) (ne : k.t.kind lot ≠ -1) (mark : Nat) : ∃ μ', RD cr2 (d + 4) 44 [1, (lot : Int), (mark : Int)] μ = some (k.cost lot mark, μ') ∧ same SStk μ μ' := by
  have h64 := ok.1.le.2
  have hm := (ok.1.2 lot hl).2 ne
  have hc := cst_R k mark (k.t.m lot)
  obtain ⟨μ', g1, g2⟩ := costText_e d ok h13 (mark : Int) (k.t.m lot)
  unfold K.cost
  rw [M44, rd_p (by omega) (by omega), rd_p (by omega) (by omega), Int.toNat_natCast, (h.2.1 lot hl).1, ((h.2.1 lot hl).2 ne).1]
  by_cases q1 : k.t.kind lot = 1
  · rw [if_pos q1, if_pos q1, B44_1, g1, bnd_s, Int.tdiv_eq_ediv_of_nonneg hc.1, w32_i (by omega) (by omega)]
    exact ⟨μ', rfl, g2⟩
  rw [if_neg q1, if_neg q1]
  by_cases q2 : k.t.kind lot = 2
  · rw [if_pos q2, if_pos q2, B44_2, g1, bnd_s, w32_i (by omega) (by omega)]
    exact ⟨μ', rfl, g2⟩
  rw [if_neg q2, if_neg q2]
  by_cases q3 : k.t.kind lot = 3
  · rw [if_pos q3, if_pos q3, B44_3]
    exact ⟨μ, rfl, same.rf⟩
  rw [if_neg q3, if_neg q3]
  by_cases q4 : k.t.kind lot = 4
  · rw [if_pos q4, if_pos q4, B44_4, g1, bnd_s, Int.tdiv_eq_ediv_of_nonneg hc.1, w32_i (x := cst k mark (k.t.m lot) / 2) (by omega) (by omega), w32_i (by omega) (by omega)]
    exact ⟨μ', rfl, g2⟩
  rw [if_neg q4, if_neg q4]
  by_cases q5 : k.t.kind lot = 5
  · rw [if_pos q5, if_pos q5, B44_5]
    exact ⟨μ, rfl, same.rf⟩
  rw [if_neg q5, if_neg q5]
  by_cases q6 : k.t.kind lot = 6
  · rw [if_pos q6, if_pos q6, B44_6, jmax_e, w32_i (by omega) (by omega)]
    exact ⟨μ, rfl, same.rf⟩
  rw [if_neg q6, if_neg q6, B44_7, g1, bnd_s]
  exact ⟨μ', rfl, g2⟩
theorem worthOf_e (d : Nat) {k : K} {μ : amM} (ok : k.Ok) (h16 : TX 16 1 k.x1 μ) {c : Int} (hc : 0 ≤ c ∧ c < 256) : ∃ μ', RD cr2 (d + 4) 45 [1, c] μ = some (k.wor c, μ') ∧ same SStk μ μ' := by
  obtain ⟨μ', g1, g2⟩ := worthText_e d ok h16 (mk c 0) (mk c 1) (mk c 2) (mk c 3)
  rw [M45, sortAt_e _ _ hc (by decide), bnd_s, sortAt_e _ _ hc (by decide), bnd_s, sortAt_e _ _ hc (by decide), bnd_s, sortAt_e _ _ hc (by decide), bnd_s]
  show ∃ μ', bnd (RD cr2 (d + 3) 43 [1, mk c 0, mk c 1, mk c 2, mk c 3] μ) _ = _ ∧ _
  rw [g1, bnd_s]
  exact ⟨μ', rfl, g2⟩
theorem STg_TM {t : Tn} {μ μ' : amM} (h : TM 72 t μ) (hs : same STg μ μ') : TM 72 t μ' := h.keep hs (fun _ => rfl)
theorem mCostOf_e (d : Nat) {k : K} {μ : amM} (ok : k.Ok) (h : TM 72 k.t μ) (hx : MX 72 0 k.x0 μ) {lot : Nat} (hl : lot < k.t.lots) (ne : k.t.kind lot ≠ -1) (mark : Nat) : ∃ μ', RD cr2 (d + 68) 185 [71, (lot : Int), (mark : Int)] μ = some (k.cost lot mark, μ') ∧ same STg μ μ' := by
  have h64 := ok.1.le.2
  have hm := (ok.1.2 lot hl).2 ne
  have hc := cst_R k mark (k.t.m lot)
  obtain ⟨μ', g1, g2⟩ := mCost_e d ok hx (mark : Int) (k.t.m lot) 0 0
  have h' := STg_TM h g2
  refine ⟨μ', ?_, g2⟩
  unfold K.cost
  rw [M185, w32_i (x := 84 + (lot : Int)) (by omega) (by omega), rd_p (by omega) (by omega), show ((84 : Int) + lot).toNat = 84 + lot by omega, ((h.2 lot hl).2 ne).1, g1, bnd_s, mKind_e _ ok.1 h' hl, bnd_s]
  by_cases q1 : k.t.kind lot = 1
  · rw [if_pos q1, if_pos q1, B185_1, Int.tdiv_eq_ediv_of_nonneg hc.1, w32_i (by omega) (by omega)]
  rw [if_neg q1, if_neg q1]
  by_cases q2 : k.t.kind lot = 2
  · rw [if_pos q2, if_pos q2, B185_2, w32_i (by omega) (by omega), Int.mul_comm]
  rw [if_neg q2, if_neg q2]
  by_cases q3 : k.t.kind lot = 3
  · rw [if_pos q3, if_pos q3, B185_3]
  rw [if_neg q3, if_neg q3]
  by_cases q4 : k.t.kind lot = 4
  · rw [if_pos q4, if_pos q4, B185_4, Int.tdiv_eq_ediv_of_nonneg hc.1, w32_i (x := cst k mark (k.t.m lot) / 2) (by omega) (by omega), w32_i (by omega) (by omega)]
  rw [if_neg q4, if_neg q4]
  by_cases q5 : k.t.kind lot = 5
  · rw [if_pos q5, if_pos q5, B185_5]
  rw [if_neg q5, if_neg q5]
  by_cases q6 : k.t.kind lot = 6
  · rw [if_pos q6, if_pos q6, B185_6]
    by_cases q7 : k.t.m lot < 3
    · rw [if_pos q7, B185_8, show max 0 (k.t.m lot - 3) = 0 by omega]
    · rw [if_neg q7, B185_7, B185_8, w32_i (by omega) (by omega), show max 0 (k.t.m lot - 3) = k.t.m lot - 3 by omega]
  rw [if_neg q6, if_neg q6, B185_9]
theorem mWorthOf_e (d : Nat) {k : K} {μ : amM} (ok : k.Ok) {t : Tn} (okt : t.Ok) (h : TM 72 t μ) (hx : MX 72 1 k.x1 μ) {lot : Nat} (hl : lot < t.lots) (ne : t.kind lot ≠ -1) : ∃ μ', RD cr2 (d + 68) 186 [71, (lot : Int)] μ = some (k.wor (t.code lot), μ') ∧ same STg μ μ' := by
  obtain ⟨μ', g1, g2⟩ := mWth_e d ok hx (mk (t.code lot) 0) (mk (t.code lot) 1) (mk (t.code lot) 2) (mk (t.code lot) 3)
  refine ⟨μ', ?_, g2⟩
  have m0 := mMark_e (d + 66) okt h hl (k := 0) (by decide) ne
  have m1 := mMark_e (d + 66) okt h hl (k := 1) (by decide) ne
  have m2 := mMark_e (d + 66) okt h hl (k := 2) (by decide) ne
  have m3 := mMark_e (d + 66) okt h hl (k := 3) (by decide) ne
  have m0 : RD cr2 (d + 67) 157 [71, (lot : Int), 0] μ = some (mk (t.code lot) 0, μ) := m0
  have m1 : RD cr2 (d + 67) 157 [71, (lot : Int), 1] μ = some (mk (t.code lot) 1, μ) := m1
  have m2 : RD cr2 (d + 67) 157 [71, (lot : Int), 2] μ = some (mk (t.code lot) 2, μ) := m2
  have m3 : RD cr2 (d + 67) 157 [71, (lot : Int), 3] μ = some (mk (t.code lot) 3, μ) := m3
  rw [M186, m0, bnd_s, m1, bnd_s, m2, bnd_s, m3, bnd_s, g1, bnd_s]
  rfl
def ofLotS (σ : St) (x y : Int) : Int × St := bif σ.t.isLot x then (bif (decide (0 ≤ y) && decide (y ≤ 11)) then (if y = 0 then ((bif σ.t.kind x.toNat == -1 then 0 else 1), σ) else (bif σ.t.kind x.toNat == -1 then σ.no 2 else (if y = 1 then (σ.t.kind x.toNat, σ) else if y = 2 then (σ.t.m x.toNat, σ) else if y < 7 then (mk (σ.t.code x.toNat) (y - 3).toNat, σ) else if y < 11 then (σ.k.cost x.toNat (y - 7).toNat, σ) else (σ.k.wor (σ.t.code x.toNat), σ)))) else σ.no 1) else σ.no 1
theorem ofLot_ok {σ : St} (ok : σ.Ok) (x y : Int) : (ofLotS σ x y).2.Ok := cd_ok (fun _ => cd_ok (fun _ => if_ok (fun _ => ok) (fun _ => cd_ok (fun _ => ok) (fun _ => if_ok (fun _ => ok) (fun _ => if_ok (fun _ => ok) (fun _ => if_ok (fun _ => ok) (fun _ => if_ok (fun _ => ok) (fun _ => ok))))))) (fun _ => ok)) (fun _ => ok)
theorem ofLot_c (d : Nat) {σ : St} {μ : amM} (ok : σ.Ok) (h : CI σ μ) (x y : Int) : OC μ (RD cr2 (d + 20) 103 [0, x, y] μ) (ofLotS σ x y) := by
  have h64 := ok.t.le.2
  have no1 : OC μ (At cr2 (d + 19) 103 1 [] [0, 0, 0, 0] μ) (σ.no 1) := by
    rw [B103_1]
    exact (OC.no _ h (by decide) (by decide)).bi (fun _ _ => rfl)
  unfold ofLotS
  rw [M103, isLot_e _ ok h, bnd_s, ifb]
  refine OC.cd (fun hl => ?_) (fun _ => no1)
  obtain ⟨n, rfl, hn⟩ := isLot_n hl
  rw [isWithin_e, bnd_s, ifb]
  refine OC.cd (fun hy => ?_) (fun _ => no1)
  obtain ⟨a, rfl, ha⟩ := wi_n hy
  rw [B103_2, Int.toNat_natCast]
  by_cases q0 : (a : Int) = 0
  · rw [if_pos q0, if_pos q0, isEmpty_e _ ok h hn, bnd_s, ifb]
    cases hb : (σ.t.kind n == -1) with
    | true => rw [cond_true, cond_true, B103_4]; exact OC.rt h
    | false => rw [cond_false, cond_false, B103_3, B103_4]; exact OC.rt h
  rw [if_neg q0, if_neg q0, B103_5, isEmpty_e _ ok h hn, bnd_s, ifb]
  refine OC.cd (fun _ => (OC.no _ h (by decide) (by decide)).bi (fun _ _ => rfl)) (fun he => ?_)
  have ne : σ.t.kind n ≠ -1 := fun q => by rw [q] at he; cases he
  have q := (h.tc.2.1 n hn).2 ne
  have hcd := (ok.t.2 n hn).2 ne
  rw [B103_6]
  by_cases q1 : (a : Int) = 1
  · rw [if_pos q1, if_pos q1, rd_p (by omega) (by omega), Int.toNat_natCast, (h.tc.2.1 n hn).1]
    exact OC.rt h
  rw [if_neg q1, if_neg q1, B103_7]
  by_cases q2 : (a : Int) = 2
  · rw [if_pos q2, if_pos q2, rd_p (by omega) (by omega), Int.toNat_natCast, q.1]
    exact OC.rt h
  rw [if_neg q2, if_neg q2, B103_8]
  by_cases q7 : (a : Int) < 7
  · rw [if_pos q7, if_pos q7, rd_p (by omega) (by omega), Int.toNat_natCast, q.2, w32_i (by omega) (by omega), sortAt_e _ _ hcd.2.2 (by omega), bnd_s]
    exact OC.rt h
  rw [if_neg q7, if_neg q7, B103_9]
  by_cases q11 : (a : Int) < 11
  · obtain ⟨μ', g1, g2⟩ := costOf_e (d + 15) ok.1 h.tc h.1.2.2.2.1.1 hn ne ((a : Int) - 7).toNat
    rw [show ((((a : Int) - 7).toNat : Nat) : Int) = (a : Int) - 7 by omega] at g1
    rw [if_pos q11, if_pos q11, w32_i (by omega) (by omega), g1, bnd_s, B103_11]
    exact ⟨μ', rfl, h.set0 (SStk_Sc g2), SStk_F g2⟩
  obtain ⟨μ', g1, g2⟩ := worthOf_e (d + 15) ok.1 h.1.2.2.2.1.2 hcd.2.2
  rw [if_neg q11, if_neg q11, B103_10, rd_p (by omega) (by omega), Int.toNat_natCast, q.2, g1, bnd_s, B103_11]
  exact ⟨μ', rfl, h.set0 (SStk_Sc g2), SStk_F g2⟩
theorem ofLot_m (d : Nat) {σ : St} {μ : amM} (ok : σ.Ok) (h : MI σ μ) (x y : Int) : OM μ (RD cr2 (d + 70) 193 [71, x, y] μ) (ofLotS σ x y) := by
  have h64 := ok.t.le.2
  have no1 : OM μ (At cr2 (d + 69) 193 1 [] [71, 0, 0] μ) (σ.no 1) := by
    rw [B193_1]
    exact (OM.no _ ok h (by decide) (by decide)).bi (fun _ _ => rfl)
  unfold ofLotS
  rw [M193, mLot_e _ ok h, bnd_s, ifb]
  refine OM.cd (fun hl => ?_) (fun _ => no1)
  obtain ⟨n, rfl, hn⟩ := isLot_n hl
  rw [in_e, bnd_s, ifb]
  refine OM.cd (fun hy => ?_) (fun _ => no1)
  obtain ⟨a, rfl, ha⟩ := wi_n hy
  rw [B193_2, Int.toNat_natCast]
  by_cases q0 : (a : Int) = 0
  · rw [if_pos q0, if_pos q0, mEmpty_e _ ok.t h.tm hn, bnd_s, ifb]
    cases hb : (σ.t.kind n == -1) with
    | true => rw [cond_true, cond_true, B193_4]; exact OM.rt h
    | false => rw [cond_false, cond_false, B193_3, B193_4]; exact OM.rt h
  rw [if_neg q0, if_neg q0, B193_5, mEmpty_e _ ok.t h.tm hn, bnd_s, ifb]
  refine OM.cd (fun _ => (OM.no _ ok h (by decide) (by decide)).bi (fun _ _ => rfl)) (fun he => ?_)
  have ne : σ.t.kind n ≠ -1 := fun q => by rw [q] at he; cases he
  have q := (h.tm.2 n hn).2 ne
  rw [B193_6]
  by_cases q1 : (a : Int) = 1
  · rw [if_pos q1, if_pos q1, mKind_e _ ok.t h.tm hn, bnd_s, B193_11]
    exact OM.rt h
  rw [if_neg q1, if_neg q1, B193_7]
  by_cases q2 : (a : Int) = 2
  · rw [if_pos q2, if_pos q2, w32_i (by omega) (by omega), rd_p (by omega) (by omega), show ((84 : Int) + n).toNat = 84 + n by omega, q.1, B193_11]
    exact OM.rt h
  rw [if_neg q2, if_neg q2, B193_8]
  by_cases q7 : (a : Int) < 7
  · have e := mMark_e (d + 68) ok.t h.tm hn (k := ((a : Int) - 3).toNat) (by omega) ne
    rw [show ((((a : Int) - 3).toNat : Nat) : Int) = (a : Int) - 3 by omega] at e
    rw [if_pos q7, if_pos q7, w32_i (by omega) (by omega), e, bnd_s, B193_11]
    exact OM.rt h
  rw [if_neg q7, if_neg q7, B193_9]
  by_cases q11 : (a : Int) < 11
  · obtain ⟨μ', g1, g2⟩ := mCostOf_e (d + 1) ok.1 h.tm h.1.2.2.2.1.1 hn ne ((a : Int) - 7).toNat
    rw [show ((((a : Int) - 7).toNat : Nat) : Int) = (a : Int) - 7 by omega] at g1
    rw [if_pos q11, if_pos q11, w32_i (by omega) (by omega), g1, bnd_s, B193_11]
    exact ⟨μ', rfl, h.set0 ok (STg_Sc g2), STg_F g2⟩
  obtain ⟨μ', g1, g2⟩ := mWorthOf_e (d + 1) ok.1 ok.t h.tm h.1.2.2.2.1.2 hn ne
  rw [if_neg q11, if_neg q11, B193_10, g1, bnd_s, B193_11]
  exact ⟨μ', rfl, h.set0 ok (STg_Sc g2), STg_F g2⟩
