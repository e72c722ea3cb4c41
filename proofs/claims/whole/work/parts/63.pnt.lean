/-! ===== a change of a mark ===== -/
def Tn.cod (t : Tn) (lot : Nat) (c : Int) : Tn := t.put lot (t.kind lot) (t.m lot) c
theorem cod_kind (t : Tn) (lot : Nat) (c : Int) (l : Nat) : (t.cod lot c).kind l = t.kind l := by
  unfold Tn.cod
  by_cases e : l = lot
  · rw [e, put_kind_eq]
  · rw [put_kind_ne _ _ _ _ e]
theorem cod_m (t : Tn) (lot : Nat) (c : Int) (l : Nat) : (t.cod lot c).m l = t.m l := by
  unfold Tn.cod
  by_cases e : l = lot
  · rw [e, put_m_eq]
  · rw [put_m_ne _ _ _ _ e]
theorem cod_code_eq (t : Tn) (lot : Nat) (c : Int) : (t.cod lot c).code lot = c := put_code_eq _ _ _ _ _
theorem cod_code_ne (t : Tn) {lot l : Nat} (c : Int) (h : l ≠ lot) : (t.cod lot c).code l = t.code l := put_code_ne _ _ _ _ h
theorem cod_bound (t : Tn) (lot : Nat) (c : Int) (l : Nat) : (t.cod lot c).bound l = t.bound l := by
  unfold Tn.bound
  rw [cod_kind]
theorem cod_ok {t : Tn} (ok : t.Ok) {lot : Nat} (hl : lot < t.lots) {c : Int} (hc : 0 ≤ c ∧ c < 256) : (t.cod lot c).Ok := ok.put lot (ok.2 lot hl).1 (fun hn => ⟨((ok.2 lot hl).2 hn).1, ((ok.2 lot hl).2 hn).2.1, hc⟩)
theorem cod_back (t : Tn) (lot : Nat) (c : Int) : ((t.cod lot c).cod lot (t.code lot)).eqv t := by
  refine ⟨⟨rfl, rfl, rfl, rfl, rfl⟩, fun l _ => ⟨?_, fun _ => ⟨?_, ?_⟩⟩⟩
  · rw [cod_kind, cod_kind]
  · rw [cod_m, cod_m]
  · by_cases e : l = lot
    · rw [e, cod_code_eq]
    · rw [cod_code_ne _ _ e, cod_code_ne _ _ e]
theorem TC.chg {t : Tn} {μ : amM} (h : TC 2 t μ) {lot : Nat} (hl : lot < t.lots) (c : Int) : TC 2 (t.cod lot c) (up μ 5 lot c) := h.put (same.rf.up (SL_5 lot)) (h.2.1 lot hl).1 (fun hn => ⟨((h.2.1 lot hl).2 hn).1, up_eq _ _ _ _⟩)
theorem TM.sets {t : Tn} {μ : amM} (ok : t.Ok) (h : TM 72 t μ) {lot k : Nat} (hl : lot < t.lots) (ne : t.kind lot ≠ -1) (hk : k < 4) {s : Int} (hs : 0 ≤ s ∧ s < 4) : TM 72 (t.cod lot (ws (t.code lot) k s)) (up μ 72 (148 + 4 * lot + k) s) := by
  have h64 := ok.le.2
  have q := (ok.2 lot hl).2 ne
  have hq := (h.2 lot hl).2 ne
  refine h.put ok hl (same.rf.up (SM_t3 lot hk)) ?_ (fun _ => ⟨?_, fun j hj => ?_⟩)
  · rw [up_if, if_neg (by omega)]; exact (h.2 lot hl).1
  · rw [up_if, if_neg (by omega)]; exact hq.1
  · rw [up_if, (mk_ws q.2.2 hk hs hj).1]
    by_cases e2 : j = k
    · rw [if_pos (by omega), if_pos e2]
    · rw [if_neg (by omega), if_neg e2, hq.2 j hj]
theorem ws_back {c s : Int} {k : Nat} (hc : 0 ≤ c ∧ c < 256) (hk : k < 4) (hs : 0 ≤ s ∧ s < 4) : ws (ws c k s) k (mk c k) = c := by
  have r1 := (mk_ws hc hk hs (j := 0) (by decide)).2
  refine mk_ext (mk_ws r1 hk (mk_R c k) (j := 0) (by decide)).2 hc (fun j hj => ?_)
  rw [(mk_ws r1 hk (mk_R c k) hj).1, (mk_ws hc hk hs hj).1]
  by_cases e : j = k
  · rw [if_pos e, e]
  · rw [if_neg e, if_neg e]
theorem TM.unset {t : Tn} {μ : amM} (ok : t.Ok) {lot k : Nat} (hl : lot < t.lots) (ne : t.kind lot ≠ -1) (hk : k < 4) {s : Int} (hs : 0 ≤ s ∧ s < 4) (h : TM 72 (t.cod lot (ws (t.code lot) k s)) μ) : TM 72 t (up μ 72 (148 + 4 * lot + k) (mk (t.code lot) k)) := by
  have q := (ok.2 lot hl).2 ne
  have hok := cod_ok ok hl (mk_ws q.2.2 hk hs (j := 0) (by decide)).2
  have e := TM.sets hok h (lot := lot) (k := k) hl (by rw [cod_kind]; exact ne) hk (mk_R (t.code lot) k)
  rw [cod_code_eq, ws_back q.2.2 hk hs] at e
  exact e.eqv (cod_back t lot _)
theorem right_cod {t : Tn} (ok : t.Ok) {lot : Nat} (hl : lot < t.lots) (hb : t.bound lot = true) (c : Int) : (t.nb lot).all (fun o => !(t.cod lot c).wrong lot o) = t.may lot c := by
  have ne := Tn.bound_ne hb
  have e := put_right ok hl (k := t.kind lot) (m := t.m lot) (c := c) ne
  have h5 : (t.kind lot == 5) = false := by
    unfold Tn.bound at hb
    rw [Bool.and_eq_true] at hb
    cases hq : (t.kind lot == 5) with
    | false => rfl
    | true => rw [hq] at hb; cases hb.2
  rw [h5, Bool.false_or] at e
  exact e
theorem cost_cod (σ : St) (lot : Nat) (c : Int) (l j : Nat) : (σ.setT (σ.t.cod lot c)).k.cost l j = σ.k.cost l j := by
  have e1 : (σ.setT (σ.t.cod lot c)).k.t.kind l = σ.k.t.kind l := cod_kind _ _ _ _
  have e2 : (σ.setT (σ.t.cod lot c)).k.t.m l = σ.k.t.m l := cod_m _ _ _ _
  have e3 : ∀ a b, cst (σ.setT (σ.t.cod lot c)).k a b = cst σ.k a b := fun a b => rfl
  unfold K.cost
  rw [e1, e2, e3]
def paintS (σ : St) (x k s : Int) : Int × St := bif σ.t.isLot x then (bif isMS k s then (bif σ.t.kind x.toNat == -1 then σ.no 2 else (bif σ.t.can x.toNat k.toNat s then (bif σ.t.may x.toNat (ws (σ.t.code x.toNat) k.toNat s) then (min 999999 (σ.k.s + σ.k.cost x.toNat k.toNat), (σ.setT (σ.t.cod x.toNat (ws (σ.t.code x.toNat) k.toNat s))).setY σ.k.y (min 999999 (σ.k.s + σ.k.cost x.toNat k.toNat)) σ.k.z) else σ.no 5) else σ.no 3)) else σ.no 1) else σ.no 1
theorem can_5 {t : Tn} {lot k : Nat} {s : Int} (h : t.can lot k s = true) : t.bound lot = true ∧ t.kind lot ≠ -1 ∧ t.kind lot ≠ 5 ∧ mk (t.code lot) k ≠ s := by
  unfold Tn.can at h
  rw [Bool.and_eq_true] at h
  refine ⟨h.1, Tn.bound_ne h.1, fun e => ?_, fun e => ?_⟩
  · have := h.1
    unfold Tn.bound at this
    rw [e, Bool.and_eq_true] at this
    cases this.2
  · have := h.2
    rw [e, beq_self_eq_true] at this
    cases this
theorem St.Ok.setY {σ : St} (ok : σ.Ok) {y s z : Int} (hy : 0 ≤ y ∧ y ≤ 9999) (hs : 0 ≤ s ∧ s ≤ 999999) (hz : i32 z) : (σ.setY y s z).Ok := ⟨⟨ok.1.1, ok.1.2.1, ok.1.2.2.1, ok.1.2.2.2.1, hy, hs, hz⟩, ok.2⟩
theorem chg_ok {σ : St} (ok : σ.Ok) {n a : Nat} (hn : n < σ.t.lots) (ha : a < 4) {s : Int} (hs : 0 ≤ s ∧ s < 4) (hc : σ.t.can n a s = true) : ((σ.setT (σ.t.cod n (ws (σ.t.code n) a s))).setY σ.k.y (min 999999 (σ.k.s + σ.k.cost n a)) σ.k.z).Ok := by
  obtain ⟨hb, ne, n5, -⟩ := can_5 hc
  have hcd := ((ok.t.2 n hn).2 ne).2.2
  have cR := cost_R ok.1 (lot := n) hn ne a
  have := cR.2.2 n5
  have hs0 := ok.1.2.2.2.2.2.1
  exact (ok.setT (cod_ok ok.t hn (mk_ws hcd ha hs (j := 0) (by decide)).2)).setY ok.1.2.2.2.2.1 (by omega) ok.1.2.2.2.2.2.2
theorem paint_ok {σ : St} (ok : σ.Ok) (x k s : Int) : (paintS σ x k s).2.Ok := by
  refine cd_ok (fun hl => cd_ok (fun hm => cd_ok (fun _ => ok) (fun _ => cd_ok (fun hc => cd_ok (fun _ => ?_) (fun _ => ok)) (fun _ => ok))) (fun _ => ok)) (fun _ => ok)
  obtain ⟨n, rfl, hn⟩ := isLot_n hl
  obtain ⟨a, b, rfl, rfl, ha, hb⟩ := isMS_n hm
  rw [Int.toNat_natCast, Int.toNat_natCast] at hc ⊢
  exact chg_ok ok hn ha (by omega) hc
/-- the class changes a mark -/
theorem change_e (d : Nat) {σ : St} {μ : amM} (ok : σ.Ok) (h : CI σ μ) {n a : Nat} (hn : n < σ.t.lots) (ha : a < 4) {s : Int} (hs : 0 ≤ s ∧ s < 4) (hc : σ.t.can n a s = true) : ∃ μ', RD cr2 (d + 5) 47 [1, (n : Int), (a : Int), s] μ = some (0, μ') ∧ CI ((σ.setT (σ.t.cod n (ws (σ.t.code n) a s))).setY σ.k.y (min 999999 (σ.k.s + σ.k.cost n a)) σ.k.z) μ' ∧ same FC μ μ' := by
  have h64 := ok.t.le.2
  obtain ⟨hb, ne, n5, -⟩ := can_5 hc
  have hcd := ((ok.t.2 n hn).2 ne).2.2
  have cR := cost_R ok.1 (lot := n) hn ne a
  have := cR.2.2 n5
  have hs0 := ok.1.2.2.2.2.2.1
  obtain ⟨μ1, g1, g2⟩ := costOf_e d ok.1 h.tc h.1.2.2.2.1.1 hn ne a
  have h1 := h.set0 (SStk_Sc g2)
  have e7 := h.1.2.2.2.2
  have h2 : CI (σ.setY σ.k.y (min 999999 (σ.k.s + σ.k.cost n a)) σ.k.z) (up μ1 1 7 (min 999999 (σ.k.s + σ.k.cost n a))) := h1.setY (same.rf.up rfl) ⟨h1.1.2.2.2.2.1, up_eq _ _ _ _, h1.1.2.2.2.2.2.2⟩
  have ecd : (up μ1 1 7 (min 999999 (σ.k.s + σ.k.cost n a))) 5 n = σ.t.code n := ((h2.tc.2.1 n hn).2 ne).2
  rw [M47, g1, bnd_s, wf_e, e7.2.1, jmin_e, w32_i (x := σ.k.s + σ.k.cost n a) (by omega) (by omega), rd_p (by omega) (by omega), Int.toNat_natCast, ecd, withSort_e _ _ hcd (by omega) hs, bnd_s, Int.toNat_natCast, wr_p (by omega) (by omega), Int.toNat_natCast]
  refine ⟨_, rfl, ?_, ((SStk_F g2).up rfl).up rfl⟩
  have s3 : same (SL n) (up μ1 1 7 (min 999999 (σ.k.s + σ.k.cost n a))) (up (up μ1 1 7 (min 999999 (σ.k.s + σ.k.cost n a))) 5 n (ws (σ.t.code n) a s)) := same.rf.up (SL_5 n)
  exact h2.setT (SL_T n s3) (h2.tc.chg hn _)
theorem paint_c (d : Nat) {σ : St} {μ : amM} (ok : σ.Ok) (h : CI σ μ) (x k s : Int) : OC μ (RD cr2 (d + 20) 106 [0, x, k, s] μ) (paintS σ x k s) := by
  have h64 := ok.t.le.2
  have no1 : OC μ (At cr2 (d + 19) 106 1 [] [0, 0, 0, 0, 0, 0] μ) (σ.no 1) := by
    rw [B106_1]
    exact (OC.no _ h (by decide) (by decide)).bi (fun _ _ => rfl)
  unfold paintS
  rw [M106, isLot_e _ ok h, bnd_s, ifb]
  refine OC.cd (fun hl => ?_) (fun _ => no1)
  obtain ⟨n, rfl, hn⟩ := isLot_n hl
  rw [isMS_e, bnd_s, ifb]
  refine OC.cd (fun hm => ?_) (fun _ => no1)
  obtain ⟨a, b, rfl, rfl, ha, hb⟩ := isMS_n hm
  rw [B106_2, isEmpty_e _ ok h hn, bnd_s, ifb, Int.toNat_natCast, Int.toNat_natCast]
  refine OC.cd (fun _ => (OC.no _ h (by decide) (by decide)).bi (fun _ _ => rfl)) (fun he => ?_)
  have ne : σ.t.kind n ≠ -1 := fun q => by rw [q] at he; cases he
  have hcd := ((ok.t.2 n hn).2 ne).2.2
  rw [B106_3, canChange_e _ ok.t h.tc hn ha, bnd_s, ifb]
  refine OC.cd (fun hc => ?_) (fun _ => (OC.no _ h (by decide) (by decide)).bi (fun _ _ => rfl))
  rw [B106_4, rd_p (by omega) (by omega), Int.toNat_natCast, ((h.tc.2.1 n hn).2 ne).2, withSort_e _ _ hcd (by omega) (by omega), bnd_s, Int.toNat_natCast, mayStand_e _ ok.t h.tc hn (mk_ws hcd ha (show 0 ≤ (b : Int) ∧ (b : Int) < 4 by omega) (j := 0) (by decide)).2, bnd_s, ifb]
  refine OC.cd (fun _ => ?_) (fun _ => (OC.no _ h (by decide) (by decide)).bi (fun _ _ => rfl))
  obtain ⟨μ', g1, g2, g3⟩ := change_e (d + 14) ok h hn ha (show 0 ≤ (b : Int) ∧ (b : Int) < 4 by omega) hc
  rw [B106_5, g1, bnd_s, g2.1.2.2.2.2.2.1]
  exact ⟨μ', rfl, g2, g3⟩
theorem spends_e (d : Nat) {σ : St} {μ : amM} (ok : σ.Ok) (h : MI σ μ) {v : Int} (hv : 0 ≤ v ∧ v ≤ 1000) : ∃ μ', RD cr2 (d + 2) 198 [71, v] μ = some (0, μ') ∧ MI (σ.setY σ.k.y (min 999999 (σ.k.s + v)) σ.k.z) μ' ∧ same FM μ μ' := by
  have q := h.1.2.2.2.2
  have hs0 := ok.1.2.2.2.2.2.1
  rw [M198, q.2.1, w32_i (by omega) (by omega), held_e _ _ _ _ (by decide), bnd_s, wf_e, show max 0 (min 999999 (σ.k.s + v)) = min 999999 (σ.k.s + v) by omega]
  exact ⟨_, rfl, h.setY ok (same.rf.up rfl) ⟨q.1, up_eq _ _ _ _, q.2.2⟩, same.rf.up rfl⟩
theorem SM3_T {n a : Nat} (hn : n < 64) (ha : a < 4) {μ : amM} (v : Int) : same (or2 hT ScM) μ (up μ 72 (148 + 4 * n + a) v) := hT_up (Or.inr (by omega))
theorem paint_m (d : Nat) {σ : St} {μ : amM} (ok : σ.Ok) (h : MI σ μ) (x k s : Int) : OM μ (RD cr2 (d + 70) 199 [71, x, k, s] μ) (paintS σ x k s) := by
  have h64 := ok.t.le.2
  have no1 : OM μ (At cr2 (d + 69) 199 1 [] [71, 0, 0, 0, 0] μ) (σ.no 1) := by
    rw [B199_1]
    exact (OM.no _ ok h (by decide) (by decide)).bi (fun _ _ => rfl)
  have no3 : OM μ (At cr2 (d + 69) 199 4 [] [71, 0, 0, 0, 0] μ) (σ.no 3) := by
    rw [B199_4]
    exact (OM.no _ ok h (by decide) (by decide)).bi (fun _ _ => rfl)
  unfold paintS
  rw [M199, mLot_e _ ok h, bnd_s, ifb]
  refine OM.cd (fun hl => ?_) (fun _ => no1)
  obtain ⟨n, rfl, hn⟩ := isLot_n hl
  rw [mSort_e, bnd_s, ifb]
  refine OM.cd (fun hm => ?_) (fun _ => no1)
  obtain ⟨a, b, rfl, rfl, ha, hb⟩ := isMS_n hm
  rw [B199_2, mEmpty_e _ ok.t h.tm hn, bnd_s, ifb, Int.toNat_natCast, Int.toNat_natCast]
  refine OM.cd (fun _ => (OM.no _ ok h (by decide) (by decide)).bi (fun _ _ => rfl)) (fun he => ?_)
  have ne : σ.t.kind n ≠ -1 := fun q => by rw [q] at he; cases he
  have hcd := ((ok.t.2 n hn).2 ne).2.2
  have hs4 : 0 ≤ (b : Int) ∧ (b : Int) < 4 := by omega
  rw [B199_3, mMark_e _ ok.t h.tm hn ha ne, bnd_s]
  by_cases q1 : mk (σ.t.code n) a = (b : Int)
  · have hc : σ.t.can n a (b : Int) = false := by
      unfold Tn.can
      rw [q1, beq_self_eq_true, Bool.and_comm]; rfl
    rw [if_pos q1, hc, cond_false]
    exact no3
  · rw [if_neg q1, mKind_e _ ok.t h.tm hn, bnd_s]
    by_cases q5 : σ.t.kind n = 5
    · have hc : σ.t.can n a (b : Int) = false := by
        unfold Tn.can Tn.bound
        rw [q5]; rfl
      rw [if_pos q5, hc, cond_false]
      exact no3
    · have hbd : σ.t.bound n = true := by
        unfold Tn.bound
        rw [beq_false_of_ne ne, beq_false_of_ne q5]; rfl
      have hc : σ.t.can n a (b : Int) = true := by
        unfold Tn.can
        rw [hbd, beq_false_of_ne q1]; rfl
      have c2 := (mk_ws hcd ha hs4 (j := 0) (by decide)).2
      have hok : (σ.t.cod n (ws (σ.t.code n) a (b : Int))).Ok := cod_ok ok.t hn c2
      have oks : (σ.setT (σ.t.cod n (ws (σ.t.code n) a (b : Int)))).Ok := ok.setT hok
      have h1 : MI (σ.setT (σ.t.cod n (ws (σ.t.code n) a (b : Int)))) (up μ 72 (148 + 4 * n + a) (b : Int)) := h.setT ok (SM3_T (by omega) ha _) (TM.sets ok.t h.tm hn ne ha hs4)
      obtain ⟨μ2, f1, f2, f3⟩ := findPairs_e (d + 67) hok h1.tm
      have h2 := h1.set0 oks (SP_Sc f3)
      have r := mRight_e (d + 65) hok h2.tm f2 (lot := n) hn
      have er : ((σ.t.cod n (ws (σ.t.code n) a (b : Int))).nb n).all (fun o => !(σ.t.cod n (ws (σ.t.code n) a (b : Int))).wrong n o) = σ.t.may n (ws (σ.t.code n) a (b : Int)) := right_cod ok.t hn hbd _
      rw [er] at r
      have fm : same FM μ μ2 := (FM_up : same FM μ (up μ 72 (148 + 4 * n + a) (b : Int))).tr (SP_F f3)
      rw [if_neg q5, hc, cond_true, B199_5, sets_e _ ok.t hn ha, bnd_s, f1, bnd_s, r, bnd_s, ifb]
      cases hmay : σ.t.may n (ws (σ.t.code n) a (b : Int)) with
      | true =>
        rw [cond_true, cond_true, B199_6]
        obtain ⟨μ3, g1, g2⟩ := mCostOf_e (d + 1) oks.1 h2.tm h2.1.2.2.2.1.1 (lot := n) hn (show (σ.t.cod n (ws (σ.t.code n) a (b : Int))).kind n ≠ -1 by rw [cod_kind]; exact ne) a
        have h3 := h2.set0 oks (STg_Sc g2)
        rw [cost_cod] at g1
        have cR := cost_R ok.1 (lot := n) hn ne a
        have := cR.2.2 q5
        obtain ⟨μ4, k1, k2, k3⟩ := spends_e (d + 67) oks h3 (v := σ.k.cost n a) (by omega)
        rw [g1, bnd_s, k1, bnd_s, k2.1.2.2.2.2.2.1]
        exact ⟨μ4, rfl, k2, (fm.tr (STg_F g2)).tr k3⟩
      | false =>
        rw [cond_false, cond_false, sets_e _ ok.t hn ha, bnd_s]
        have h3 : MI σ (up μ2 72 (148 + 4 * n + a) (mk (σ.t.code n) a)) := (show MI ((σ.setT (σ.t.cod n (ws (σ.t.code n) a (b : Int)))).setT σ.t) _ from h2.setT oks (SM3_T (by omega) ha _) (TM.unset ok.t hn ne ha hs4 h2.tm))
        exact OM.tr ((OM.no _ ok h3 (by decide) (by decide)).bi (fun _ _ => rfl)) (fm.tr FM_up)
/-! worth -/
def wsm (k : K) : Nat → Nat → Int → Int
  | 0, _, a => a
  | n + 1, i, a => wsm k n (i + 1) (if k.t.kind i = -1 then a else a + k.wor (k.t.code i))
def worthS (σ : St) : Int × St := (wsm σ.k σ.t.lots 0 0, σ)
theorem worth_loop (d : Nat) {σ : St} (ok : σ.Ok) : ∀ (n i : Nat) (a : Int) (μ : amM), i + n = σ.t.lots → CI σ μ → -100 * (i : Int) ≤ a → a ≤ 100 * (i : Int) → ∃ μ', At cr2 (d + 10) 124 1 [] [0, a, (i : Int)] μ = some (wsm σ.k n i a, μ') ∧ CI σ μ' ∧ same FC μ μ'
  | 0, i, a, μ, hi, h, h1, h2 => by
    rw [B124_1, h.tc.1.2.2.2.1, if_neg (by omega), B124_3]
    exact ⟨μ, rfl, h, same.rf⟩
  | n + 1, i, a, μ, hi, h, h1, h2 => by
    have h64 := ok.t.le.2
    have hil : i < σ.t.lots := by omega
    rw [B124_1, h.tc.1.2.2.2.1, if_pos (by omega), isEmpty_e _ ok h hil, bnd_s]
    unfold wsm
    by_cases q : σ.t.kind i = -1
    · rw [q, if_neg (by decide), if_pos (show σ.k.t.kind i = -1 from q), B124_2, w32_i (by omega) (by omega)]
      exact worth_loop d ok n (i + 1) a μ (by omega) h (by omega) (by omega)
    · have hcd := (ok.t.2 i hil).2 q
      have wR : -99 ≤ σ.k.wor (σ.t.code i) ∧ σ.k.wor (σ.t.code i) ≤ 99 := wth_R _ _ _ _ _
      obtain ⟨μ1, g1, g2⟩ := worthOf_e (d + 6) ok.1 h.1.2.2.2.1.2 hcd.2.2
      obtain ⟨μ2, f1, f2, f3⟩ := worth_loop d ok n (i + 1) (a + σ.k.wor (σ.t.code i)) μ1 (by omega) (h.set0 (SStk_Sc g2)) (by omega) (by omega)
      rw [beq_false_of_ne q, if_pos (show bi false = 0 from rfl), if_neg (show ¬ σ.k.t.kind i = -1 from q), rd_p (by omega) (by omega), Int.toNat_natCast, ((h.tc.2.1 i hil).2 q).2, g1, bnd_s, w32_i (by omega) (by omega), B124_2, w32_i (by omega) (by omega)]
      exact ⟨μ2, f1, f2, (SStk_F g2).tr f3⟩
theorem worth_c (d : Nat) {σ : St} {μ : amM} (ok : σ.Ok) (h : CI σ μ) : OC μ (RD cr2 (d + 20) 124 [0] μ) (worthS σ) := by
  obtain ⟨μ', g1, g2, g3⟩ := worth_loop (d + 9) ok σ.t.lots 0 0 μ (Nat.zero_add _) h (by decide) (by decide)
  rw [M124]
  exact ⟨μ', g1, g2, g3⟩
