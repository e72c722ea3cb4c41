/-! ===== a change that leaves the town lawful ===== -/
theorem oth_cons (p : Nat × Nat) (l : List (Nat × Nat)) (lot : Nat) : oth (p :: l) lot = if p.1 = lot then p.2 :: oth l lot else if p.2 = lot then p.1 :: oth l lot else oth l lot := by
  unfold oth
  rw [List.filterMap_cons]
  by_cases q1 : p.1 = lot
  · rw [if_pos q1, if_pos q1]
  · rw [if_neg q1, if_neg q1]
    by_cases q2 : p.2 = lot
    · rw [if_pos q2, if_pos q2]
    · rw [if_neg q2, if_neg q2]
def Tn.away (t : Tn) (lot : Nat) (p : Nat × Nat) : Bool := !(p.1 == lot) && !(p.2 == lot) && t.wrong p.1 p.2
theorem split_cnt (t : Tn) (lot : Nat) : ∀ l : List (Nat × Nat), ((oth l lot).filter (fun o => t.wrong lot o)).length + (l.filter (t.away lot)).length = (l.filter (fun p => t.wrong p.1 p.2)).length
  | [] => rfl
  | p :: l => by
    have ih := split_cnt t lot l
    rw [oth_cons]
    by_cases q1 : p.1 = lot
    · have ha : t.away lot p = false := by
        unfold Tn.away
        rw [q1, beq_self_eq_true]; rfl
      rw [if_pos q1, List.filter_cons_of_neg (p := t.away lot) (by rw [ha]; decide)]
      cases hw : t.wrong lot p.2 with
      | true =>
        rw [List.filter_cons_of_pos (p := fun o => t.wrong lot o) hw, List.filter_cons_of_pos (p := fun p : Nat × Nat => t.wrong p.1 p.2) (by rw [q1]; exact hw), List.length_cons, List.length_cons]
        omega
      | false =>
        rw [List.filter_cons_of_neg (p := fun o => t.wrong lot o) (by rw [hw]; decide), List.filter_cons_of_neg (p := fun p : Nat × Nat => t.wrong p.1 p.2) (by rw [q1, hw]; decide)]
        exact ih
    · rw [if_neg q1]
      by_cases q2 : p.2 = lot
      · have ha : t.away lot p = false := by
          unfold Tn.away
          rw [q2, beq_self_eq_true, Bool.not_true, Bool.and_false]; rfl
        rw [if_pos q2, List.filter_cons_of_neg (p := t.away lot) (by rw [ha]; decide)]
        cases hw : t.wrong lot p.1 with
        | true =>
          rw [List.filter_cons_of_pos (p := fun o => t.wrong lot o) hw, List.filter_cons_of_pos (p := fun p : Nat × Nat => t.wrong p.1 p.2) (by rw [q2, Tn.wrong_comm]; exact hw), List.length_cons, List.length_cons]
          omega
        | false =>
          rw [List.filter_cons_of_neg (p := fun o => t.wrong lot o) (by rw [hw]; decide), List.filter_cons_of_neg (p := fun p : Nat × Nat => t.wrong p.1 p.2) (by rw [q2, Tn.wrong_comm, hw]; decide)]
          exact ih
      · have ha : t.away lot p = t.wrong p.1 p.2 := by
          unfold Tn.away
          rw [beq_false_of_ne q1, beq_false_of_ne q2]; rfl
        rw [if_neg q2]
        cases hw : t.wrong p.1 p.2 with
        | true =>
          rw [List.filter_cons_of_pos (p := t.away lot) (by rw [ha]; exact hw), List.filter_cons_of_pos (p := fun p : Nat × Nat => t.wrong p.1 p.2) hw, List.length_cons, List.length_cons]
          omega
        | false =>
          rw [List.filter_cons_of_neg (p := t.away lot) (by rw [ha, hw]; decide), List.filter_cons_of_neg (p := fun p : Nat × Nat => t.wrong p.1 p.2) (by rw [hw]; decide)]
          exact ih
theorem away_cod (t : Tn) (lot : Nat) (c : Int) (p : Nat × Nat) : (t.cod lot c).away lot p = t.away lot p := by
  unfold Tn.away
  by_cases q1 : p.1 = lot
  · rw [q1, beq_self_eq_true]; rfl
  · by_cases q2 : p.2 = lot
    · rw [q2, beq_self_eq_true, Bool.not_true, Bool.and_false]; rfl
    · unfold Tn.wrong
      rw [cod_bound, cod_bound, cod_code_ne _ _ q1, cod_code_ne _ _ q2]
      rfl
theorem lawful_wl {t : Tn} (ok : t.Ok) {lot : Nat} (hl : lot < t.lots) (hb : t.bound lot = true) (c : Int) : ((t.cod lot c).wl.length == 0) = (((t.wl.length : Int) == 0 || (t.wat lot : Int) == (t.wl.length : Int)) && t.may lot c) := by
  have hp := ok.oth hl
  have e1 := split_cnt t lot t.prs
  have e2 := split_cnt (t.cod lot c) lot t.prs
  have ea : t.prs.filter ((t.cod lot c).away lot) = t.prs.filter (t.away lot) := List.filter_congr (fun p _ => away_cod t lot c p)
  have ew : ((oth t.prs lot).filter (fun o => t.wrong lot o)).length = t.wat lot := (hp.filter _).length_eq
  have ew2 : ((oth t.prs lot).filter (fun o => (t.cod lot c).wrong lot o)).length = ((t.nb lot).filter (fun o => (t.cod lot c).wrong lot o)).length := (hp.filter _).length_eq
  rw [ew] at e1
  rw [ew2, ea] at e2
  have e1 : t.wat lot + (t.prs.filter (t.away lot)).length = t.wl.length := e1
  have e2 : ((t.nb lot).filter (fun o => (t.cod lot c).wrong lot o)).length + (t.prs.filter (t.away lot)).length = (t.cod lot c).wl.length := e2
  have er := right_cod ok hl hb c
  rw [← e2]
  cases hm : t.may lot c with
  | true =>
    rw [hm, List.all_eq_true] at er
    have e0 : (t.nb lot).filter (fun o => (t.cod lot c).wrong lot o) = [] := List.filter_eq_nil_iff.mpr (fun o ho => by
      have := er o ho
      intro w
      rw [w] at this
      cases this)
    rw [e0, List.length_nil, Nat.zero_add, Bool.and_true]
    by_cases q : (t.prs.filter (t.away lot)).length = 0
    · have : (t.wat lot : Int) = (t.wl.length : Int) := by omega
      rw [q, this, show ((0 : Nat) == 0) = true from rfl, beq_self_eq_true, Bool.or_true]
    · rw [beq_false_of_ne q, beq_false_of_ne (by omega), beq_false_of_ne (by omega)]; rfl
  | false =>
    rw [hm] at er
    have e0 : 0 < ((t.nb lot).filter (fun o => (t.cod lot c).wrong lot o)).length := by
      rw [List.length_pos_iff]
      intro w
      have : (t.nb lot).all (fun o => !(t.cod lot c).wrong lot o) = true := List.all_eq_true.mpr (fun o ho => by
        have := List.filter_eq_nil_iff.mp w o ho
        cases hx : (t.cod lot c).wrong lot o with
        | true => rw [hx] at this; exact absurd rfl this
        | false => rfl)
      rw [this] at er
      cases er
    rw [Bool.and_false]
    exact beq_false_of_ne (by omega)
/-! ===== draws ===== -/
def drw (z : Int) : Int := w32 (w32 (z * 1103515245) + 12345)
def dv (z : Int) : Int := bUshr z 8
theorem dv_R (z : Int) : 0 ≤ dv z ∧ dv z < 16777216 := by
  have e : dv z = ((Int32.ofInt z).toBitVec >>> (((Int32.ofInt 8).toUInt32 &&& Int32.toUInt32 31).toBitVec % 32)).toInt := rfl
  have e2 : ((Int32.ofInt z).toBitVec >>> (((Int32.ofInt 8).toUInt32 &&& Int32.toUInt32 31).toBitVec % 32)).toNat = (Int32.ofInt z).toBitVec.toNat / 256 := by
    rw [BitVec.ushiftRight_eq', show ((((Int32.ofInt 8).toUInt32 &&& Int32.toUInt32 31).toBitVec % 32)).toNat = 8 from by decide, BitVec.toNat_ushiftRight, Nat.shiftRight_eq_div_pow]
  have h := (Int32.ofInt z).toBitVec.isLt
  rw [e, BitVec.toInt_eq_toNat_of_lt (by rw [e2]; omega), e2]
  omega
theorem drw_i (z : Int) : i32 (drw z) := by
  have := w32_R (w32 (z * 1103515245) + 12345)
  unfold R32 at this
  unfold i32 drw
  omega
theorem draw_c (d : Nat) {σ : St} {μ : amM} (h : CI σ μ) : RD cr2 (d + 1) 41 [1] μ = some (dv (drw σ.k.z), up μ 1 8 (drw σ.k.z)) ∧ CI (σ.setY σ.k.y σ.k.s (drw σ.k.z)) (up μ 1 8 (drw σ.k.z)) ∧ same FC μ (up μ 1 8 (drw σ.k.z)) := by
  have q := h.1.2.2.2.2
  refine ⟨?_, h.setY (same.rf.up rfl) ⟨q.1, q.2.1, up_eq _ _ _ _⟩, same.rf.up rfl⟩
  rw [M41, q.2.2, wf_e, up_eq]
  rfl
theorem draw_m (d : Nat) {σ : St} {μ : amM} (ok : σ.Ok) (h : MI σ μ) : RD cr2 (d + 1) 227 [71] μ = some (dv (drw σ.k.z), up μ 72 7 (drw σ.k.z)) ∧ MI (σ.setY σ.k.y σ.k.s (drw σ.k.z)) (up μ 72 7 (drw σ.k.z)) ∧ same FM μ (up μ 72 7 (drw σ.k.z)) := by
  have q := h.1.2.2.2.2
  refine ⟨?_, h.setY ok (same.rf.up rfl) ⟨q.1, q.2.1, up_eq _ _ _ _⟩, same.rf.up rfl⟩
  rw [M227, q.2.2, wf_e, up_eq]
  rfl
/-! ===== years ===== -/
def St.z1 (σ : St) : Int := drw σ.k.z
def St.z2 (σ : St) : Int := drw σ.z1
def St.z3 (σ : St) : Int := drw σ.z2
def St.yl (σ : St) : Nat := (dv σ.z1 % (σ.t.lots : Int)).toNat
def St.ym (σ : St) : Nat := (dv σ.z2 % 4).toNat
def St.ys (σ : St) : Int := dv σ.z3 % 3
def St.yok (σ : St) : Bool := σ.t.lawful σ.yl σ.ym σ.ys (σ.t.wl.length : Int)
def St.chg (σ : St) (n a : Nat) (s : Int) : St := (σ.setT (σ.t.cod n (ws (σ.t.code n) a s))).setY σ.k.y (min 999999 (σ.k.s + σ.k.cost n a)) σ.k.z
def St.yst (σ : St) : St := bif σ.yok then (σ.setY σ.k.y σ.k.s σ.z3).chg σ.yl σ.ym σ.ys else σ.setY σ.k.y σ.k.s σ.z3
def yrs : Nat → St → Nat → Nat × St
  | 0, σ, c => (c, σ)
  | n + 1, σ, c => yrs n σ.yst (c + (bif σ.yok then 1 else 0))
def addY (σ : St) (a : Int) : St := σ.setY (σ.k.y + a) σ.k.s σ.k.z
def yearsS (σ : St) (n : Int) : Int × St := bif (decide (1 ≤ n) && decide (n ≤ 200)) then (if 9999 < σ.k.y + n then σ.no 3 else (((yrs n.toNat σ 0).1 : Int), addY (yrs n.toNat σ 0).2 n)) else σ.no 1
theorem yR {σ : St} (ok : σ.Ok) : σ.yl < σ.t.lots ∧ σ.ym < 4 ∧ 0 ≤ σ.ys ∧ σ.ys < 3 ∧ (dv σ.z1).tmod (σ.t.lots : Int) = (σ.yl : Int) ∧ (dv σ.z2).tmod 4 = (σ.ym : Int) ∧ (dv σ.z3).tmod 3 = σ.ys := by
  have h64 := ok.t.le
  have d1 := dv_R σ.z1
  have d2 := dv_R σ.z2
  have d3 := dv_R σ.z3
  have m1 := Int.emod_nonneg (dv σ.z1) (show (σ.t.lots : Int) ≠ 0 by omega)
  have m2 := Int.emod_lt_of_pos (dv σ.z1) (show 0 < (σ.t.lots : Int) by omega)
  unfold St.yl St.ym St.ys
  rw [Int.tmod_eq_emod_of_nonneg d1.1, Int.tmod_eq_emod_of_nonneg d2.1, Int.tmod_eq_emod_of_nonneg d3.1]
  refine ⟨by omega, by omega, by omega, by omega, by omega, by omega, rfl⟩
theorem lawful_can {t : Tn} {lot k : Nat} {s w : Int} (h : t.lawful lot k s w = true) : t.can lot k s = true := by
  unfold Tn.lawful at h
  rw [Bool.and_eq_true, Bool.and_eq_true] at h
  exact h.1.1
theorem yst_ok {σ : St} (ok : σ.Ok) : σ.yst.Ok := by
  have oky : (σ.setY σ.k.y σ.k.s σ.z3).Ok := ok.setY ok.1.2.2.2.2.1 ok.1.2.2.2.2.2.1 (drw_i _)
  obtain ⟨r1, r2, r3, r4, -⟩ := yR ok
  unfold St.yst
  cases hq : σ.yok with
  | false => exact oky
  | true => exact chg_ok oky (n := σ.yl) r1 r2 (by omega) (lawful_can hq)
theorem yst_wl {σ : St} (ok : σ.Ok) (h : σ.yok = true) : σ.yst.t.wl.length = 0 := by
  obtain ⟨r1, r2, r3, r4, -⟩ := yR ok
  have hc := lawful_can h
  have e := lawful_wl ok.t r1 (can_5 hc).1 (ws (σ.t.code σ.yl) σ.ym σ.ys)
  have h2 := h
  unfold St.yok Tn.lawful at h2
  rw [Bool.and_eq_true, Bool.and_eq_true] at h2
  rw [h2.1.2, h2.2] at e
  unfold St.yst
  rw [h]
  exact eq_of_beq e
theorem yst_wl0 {σ : St} (h : σ.yok = false) : σ.yst.t = σ.t := by
  unfold St.yst
  rw [h]; rfl
theorem yst_y (σ : St) : σ.yst.k.y = σ.k.y := by
  unfold St.yst
  cases σ.yok <;> rfl
theorem yrs_ok : ∀ (n : Nat) {σ : St} (c : Nat), σ.Ok → (yrs n σ c).2.Ok ∧ (yrs n σ c).2.k.y = σ.k.y
  | 0, σ, c, ok => ⟨ok, rfl⟩
  | n + 1, σ, c, ok => by
    have := yrs_ok n (c + (bif σ.yok then 1 else 0)) (yst_ok ok)
    exact ⟨this.1, this.2.trans (yst_y σ)⟩
theorem years_ok {σ : St} (ok : σ.Ok) (n : Int) : (yearsS σ n).2.Ok := by
  refine cd_ok (fun h => if_ok (fun _ => ok) (fun q => ?_)) (fun _ => ok)
  obtain ⟨m, rfl, hm, hm2⟩ := wi1_n h
  rw [Int.toNat_natCast]
  obtain ⟨o, e⟩ := yrs_ok m 0 ok
  have := ok.1.2.2.2.2.1
  exact o.setY (by rw [e]; omega) o.1.2.2.2.2.2.1 o.1.2.2.2.2.2.2
theorem live_loop (d : Nat) (N : Nat) (hN : N ≤ 200) : ∀ (n i c : Nat) (σ : St) (μ : amM), i + n = N → c ≤ i → σ.Ok → CI σ μ → ∃ μ', At cr2 (d + 7) 48 1 [] [1, (N : Int), (c : Int), (σ.t.wl.length : Int), (i : Int), 0, 0, 0] μ = At cr2 (d + 7) 48 3 [] [1, (N : Int), ((yrs n σ c).1 : Int), 0, 0, 0, 0, 0] μ' ∧ CI (yrs n σ c).2 μ' ∧ same FC μ μ'
  | 0, i, c, σ, μ, hi, hc, ok, h => by
    rw [B48_1, if_neg (by omega)]
    exact ⟨μ, rfl, h, same.rf⟩
  | n + 1, i, c, σ, μ, hi, hc, ok, h => by
    obtain ⟨r1, r2, r3, r4, t1, t2, t3⟩ := yR ok
    have h64 := ok.t.le
    have h128 := ok.t.wl_le
    have oz : ∀ z, i32 z → (σ.setY σ.k.y σ.k.s z).Ok := fun z hz => ok.setY ok.1.2.2.2.2.1 ok.1.2.2.2.2.2.1 hz
    obtain ⟨a1, a2, a3⟩ := draw_c (d + 6) h
    obtain ⟨b1, b2, b3⟩ := draw_c (d + 6) a2
    obtain ⟨c1, c2, c3⟩ := draw_c (d + 6) b2
    have a1 : RD cr2 (d + 7) 41 [1] μ = some (dv σ.z1, up μ 1 8 σ.z1) := a1
    have b1 : RD cr2 (d + 7) 41 [1] (up μ 1 8 σ.z1) = some (dv σ.z2, up (up μ 1 8 σ.z1) 1 8 σ.z2) := b1
    have c1 : RD cr2 (d + 7) 41 [1] (up (up μ 1 8 σ.z1) 1 8 σ.z2) = some (dv σ.z3, up (up (up μ 1 8 σ.z1) 1 8 σ.z2) 1 8 σ.z3) := c1
    have c2 : CI (σ.setY σ.k.y σ.k.s σ.z3) (up (up (up μ 1 8 σ.z1) 1 8 σ.z2) 1 8 σ.z3) := c2
    have oky := oz σ.z3 (drw_i _)
    have el : (up μ 1 8 σ.z1) 2 10 = (σ.t.lots : Int) := h.tc.1.2.2.2.1
    have fr : same FC μ (up (up (up μ 1 8 σ.z1) 1 8 σ.z2) 1 8 σ.z3) := (a3.tr b3).tr c3
    have L := isLawful_e (d + 1) oky.t c2.tc (lot := σ.yl) (k := σ.ym) r1 r2 (s := σ.ys) (by omega) (σ.t.wl.length : Int)
    have L : RD cr2 (d + 7) 81 [2, (σ.yl : Int), (σ.ym : Int), σ.ys, (σ.t.wl.length : Int)] (up (up (up μ 1 8 σ.z1) 1 8 σ.z2) 1 8 σ.z3) = some (bi σ.yok, up (up (up μ 1 8 σ.z1) 1 8 σ.z2) 1 8 σ.z3) := L
    rw [B48_1, if_pos (by omega), a1, bnd_s, el, if_neg (by omega), b1, bnd_s, c1, bnd_s, t1, t2, t3, L, bnd_s]
    unfold yrs
    cases hq : σ.yok with
    | false =>
      have ey : σ.yst = σ.setY σ.k.y σ.k.s σ.z3 := by unfold St.yst; rw [hq]; rfl
      obtain ⟨μ', g1, g2, g3⟩ := live_loop d N hN n (i + 1) c σ.yst _ (by omega) (by omega) (yst_ok ok) (by rw [ey]; exact c2)
      rw [yst_wl0 hq] at g1
      rw [if_pos (show bi false = 0 from rfl), B48_2, w32_i (by omega) (by omega)]
      exact ⟨μ', g1, g2, fr.tr g3⟩
    | true =>
      obtain ⟨μ4, k1, k2, k3⟩ := change_e (d + 2) oky c2 (n := σ.yl) (a := σ.ym) (s := σ.ys) r1 r2 (by omega) (lawful_can hq)
      have ey : σ.yst = (σ.setY σ.k.y σ.k.s σ.z3).chg σ.yl σ.ym σ.ys := by unfold St.yst; rw [hq]; rfl
      obtain ⟨μ', g1, g2, g3⟩ := live_loop d N hN n (i + 1) (c + 1) σ.yst μ4 (by omega) (by omega) (yst_ok ok) (by rw [ey]; exact k2)
      rw [yst_wl ok hq] at g1
      rw [if_neg (show ¬ bi true = 0 from by decide), k1, bnd_s, B48_2, w32_i (x := (c : Int) + 1) (by omega) (by omega), w32_i (by omega) (by omega)]
      exact ⟨μ', g1, g2, (fr.tr k3).tr g3⟩
theorem years_c (d : Nat) {σ : St} {μ : amM} (ok : σ.Ok) (h : CI σ μ) (n : Int) : OC μ (RD cr2 (d + 20) 126 [0, n] μ) (yearsS σ n) := by
  have hy := ok.1.2.2.2.2.1
  have e6 := h.1.2.2.2.2.1
  unfold yearsS
  rw [M126, isWithin_e, bnd_s, ifb]
  refine OC.cd (fun hn => ?_) (fun _ => (OC.no _ h (by decide) (by decide)).bi (fun _ _ => rfl))
  obtain ⟨m, rfl, hm, hm2⟩ := wi1_n hn
  rw [B126_1, e6, w32_i (by omega) (by omega)]
  by_cases q : 9999 < σ.k.y + m
  · rw [if_pos q, if_pos q]
    exact (OC.no _ h (by decide) (by decide)).bi (fun _ _ => rfl)
  · obtain ⟨μ1, a1, a2, a3⟩ := listWrong_e (d + 13) ok.t h.tc
    have h1 := h.set0 (S8_Sc a3)
    obtain ⟨μ2, g1, g2, g3⟩ := live_loop (d + 11) m (by omega) m 0 0 σ μ1 (Nat.zero_add _) (Nat.le_refl _) ok h1
    have ee := (yrs_ok m 0 ok).2
    have e62 : μ2 1 6 = σ.k.y := g2.1.2.2.2.2.1.trans ee
    have g1 : At cr2 (d + 18) 48 1 [] [1, (m : Int), 0, (σ.t.wl.length : Int), 0, 0, 0, 0] μ1 = At cr2 (d + 18) 48 3 [] [1, (m : Int), ((yrs m σ 0).1 : Int), 0, 0, 0, 0, 0] μ2 := g1
    rw [if_neg q, if_neg q, B126_2, M48, a1, bnd_s, g1, B48_3, wf_e, bnd_s, e62, w32_i (by omega) (by omega), Int.toNat_natCast]
    refine ⟨_, rfl, ?_, ((S8_F a3).tr g3).up rfl⟩
    show CI ((yrs m σ 0).2.setY ((yrs m σ 0).2.k.y + (m : Int)) (yrs m σ 0).2.k.s (yrs m σ 0).2.k.z) _
    rw [ee]
    exact g2.setY (same.rf.up rfl) ⟨up_eq _ _ _ _, g2.1.2.2.2.2.2.1, g2.1.2.2.2.2.2.2⟩
