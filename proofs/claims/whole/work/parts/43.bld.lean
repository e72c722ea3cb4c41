/-! ===== building ===== -/
def Tn.eqv (a b : Tn) : Prop := (a.rows = b.rows ∧ a.cols = b.cols ∧ a.shape = b.shape ∧ a.least = b.least ∧ a.most = b.most) ∧ ∀ l, l < a.lots → a.kind l = b.kind l ∧ (a.kind l ≠ -1 → a.m l = b.m l ∧ a.code l = b.code l)
theorem TM.eqv {c : Nat} {a b : Tn} {μ : amM} (h : TM c a μ) (e : a.eqv b) : TM c b μ := by
  obtain ⟨⟨e1, e2, e3, e4, e5⟩, e6⟩ := e
  unfold TM at h ⊢
  have el : b.lots = a.lots := by unfold Tn.lots; rw [e1, e2]
  rw [← e1, ← e2, ← e3, ← e4, ← e5, el]
  refine ⟨h.1, fun l hl => ?_⟩
  obtain ⟨g1, g2⟩ := e6 l hl
  rw [← g1]
  refine ⟨(h.2 l hl).1, fun hn => ?_⟩
  rw [← (g2 hn).1, ← (g2 hn).2]
  exact (h.2 l hl).2 hn
theorem TC.eqv {c : Nat} {a b : Tn} {μ : amM} (h : TC c a μ) (e : a.eqv b) : TC c b μ := by
  obtain ⟨⟨e1, e2, e3, e4, e5⟩, e6⟩ := e
  unfold TC at h ⊢
  have el : b.lots = a.lots := by unfold Tn.lots; rw [e1, e2]
  have en : ∀ l, b.nb l = a.nb l := fun l => by unfold Tn.nb; rw [e1, e2, e3]
  rw [← e1, ← e2, ← e3, ← e4, ← e5, el]
  refine ⟨h.1, fun l hl => ?_, fun l hl => ?_⟩
  · obtain ⟨g1, g2⟩ := e6 l hl
    rw [← g1]
    refine ⟨(h.2.1 l hl).1, fun hn => ?_⟩
    rw [← (g2 hn).1, ← (g2 hn).2]
    exact (h.2.1 l hl).2 hn
  · rw [en]
    exact h.2.2 l hl
def Tn.fit (t : Tn) (lot : Nat) (y z : Int) : Bool := y / 10 == 5 || t.may lot (hc z)
def Tn.why (t : Tn) (x y z : Int) : Int := bif t.isLot x then (bif (decide (0 ≤ y) && decide (y ≤ 69)) then (bif (decide (0 ≤ z) && decide (z ≤ 80)) then (bif t.kind x.toNat == -1 then (bif t.fit x.toNat y z then 0 else 5) else 3) else 1) else 1) else 1
def buildS (σ : St) (x y z : Int) : Int × St := if σ.t.why x y z = 0 then (((σ.t.put x.toNat (y / 10) (y % 10) (hc z)).houses : Int), σ.setT (σ.t.put x.toNat (y / 10) (y % 10) (hc z))) else σ.no (σ.t.why x y z)
theorem why_0 {t : Tn} {x y z : Int} (h : t.why x y z = 0) : ∃ n a b : Nat, x = n ∧ y = a ∧ z = b ∧ n < t.lots ∧ a ≤ 69 ∧ b ≤ 80 ∧ t.kind n = -1 ∧ t.fit n y z = true := by
  unfold Tn.why at h
  cases h1 : t.isLot x with
  | false => rw [h1] at h; exact absurd (show (1 : Int) = 0 from h) (by decide)
  | true =>
    cases h2 : (decide (0 ≤ y) && decide (y ≤ 69)) with
    | false => rw [h1, h2] at h; exact absurd (show (1 : Int) = 0 from h) (by decide)
    | true =>
      cases h3 : (decide (0 ≤ z) && decide (z ≤ 80)) with
      | false => rw [h1, h2, h3] at h; exact absurd (show (1 : Int) = 0 from h) (by decide)
      | true =>
        obtain ⟨n, rfl, hn⟩ := isLot_n h1
        obtain ⟨a, rfl, ha⟩ := wi_n h2
        obtain ⟨b, rfl, hb⟩ := wi_n h3
        rw [h1, h2, h3, Int.toNat_natCast] at h
        cases h4 : (t.kind n == -1) with
        | false => rw [h4] at h; exact absurd (show (3 : Int) = 0 from h) (by decide)
        | true =>
          cases h5 : t.fit n a b with
          | false => rw [h4, h5] at h; exact absurd h (by decide)
          | true => exact ⟨n, a, b, rfl, rfl, rfl, hn, by omega, by omega, eq_of_beq h4, h5⟩
theorem why_R (t : Tn) (x y z : Int) : 0 ≤ t.why x y z ∧ t.why x y z < 6 := by
  unfold Tn.why
  cases t.isLot x <;> cases (decide (0 ≤ y) && decide (y ≤ 69)) <;> cases (decide (0 ≤ z) && decide (z ≤ 80)) <;> cases (t.kind x.toNat == -1) <;> cases t.fit x.toNat y z <;> decide
theorem why_e (d : Nat) {σ : St} {μ : amM} (ok : σ.Ok) (h : CI σ μ) (x y z : Int) : RD cr2 (d + 5) 148 [0, x, y, z] μ = some (σ.t.why x y z, μ) := by
  have one : At cr2 (d + 4) 148 1 [] [0, 0, 0, 0, 0] μ = some (1, μ) := B148_1 _ _
  have yes : At cr2 (d + 4) 148 4 [] [0, 0, 0, 0, 0] μ = some (0, μ) := by
    rw [B148_4, B148_6, if_neg (by decide), B148_8]
  have nay : At cr2 (d + 4) 148 5 [] [0, 0, 0, 0, 0] μ = some (5, μ) := by
    rw [B148_5, B148_6, if_pos (by decide), B148_7, B148_8]
  unfold Tn.why
  rw [M148, isLot_e _ ok h, bnd_s, ifb]
  cases h1 : σ.t.isLot x with
  | false => exact one
  | true =>
    obtain ⟨n, rfl, hn⟩ := isLot_n h1
    simp only [cond_true]
    rw [isKm_e, bnd_s, ifb]
    cases h2 : (decide (0 ≤ y) && decide (y ≤ 69)) with
    | false => exact one
    | true =>
      obtain ⟨a, rfl, ha⟩ := wi_n h2
      simp only [cond_true]
      rw [isWithin_e, bnd_s, ifb]
      cases h3 : (decide (0 ≤ z) && decide (z ≤ 80)) with
      | false => exact one
      | true =>
        obtain ⟨b, rfl, hb⟩ := wi_n h3
        simp only [cond_true]
        rw [B148_2, isEmpty_e _ ok h hn, bnd_s, ifb, Int.toNat_natCast]
        cases h4 : (σ.t.kind n == -1) with
        | false => rfl
        | true =>
          simp only [cond_true]
          rw [B148_3, Int.tdiv_eq_ediv_of_nonneg (by omega), w32_i (by omega) (by omega)]
          unfold Tn.fit
          by_cases q : (a : Int) / 10 = 5
          · rw [if_pos q, q, yes]; rfl
          · rw [if_neg q, beq_false_of_ne q, codeOf_e _ _ (by omega), bnd_s, mayStand_e _ ok.t h.tc hn (hc_R (by omega)), bnd_s, ifb]
            cases h5 : σ.t.may n (hc (b : Int)) with
            | true => exact yes
            | false => exact nay
theorem place_e (d : Nat) {n : Nat} (hn : n < 64) (k m c : Int) (μ : amM) : RD cr2 (d + 1) 67 [2, (n : Int), k, m, c] μ = some (0, up (up (up μ 3 n k) 4 n m) 5 n c) := by
  rw [M67, wr_p (by omega) (by omega), wr_p (by omega) (by omega), wr_p (by omega) (by omega), Int.toNat_natCast]
theorem place_s (n : Nat) (k m c : Int) (μ : amM) : same (SL n) μ (up (up (up μ 3 n k) 4 n m) 5 n c) := ((same.rf.up (SL_3 n)).up (SL_4 n)).up (SL_5 n)
theorem place_t {t : Tn} {μ : amM} (h : TC 2 t μ) (n : Nat) (k m c : Int) : TC 2 (t.put n k m c) (up (up (up μ 3 n k) 4 n m) 5 n c) := h.put (place_s n k m c μ) (show up μ 3 n k 3 n = k from up_eq _ _ _ _) (fun _ => ⟨show up (up μ 3 n k) 4 n m 4 n = m from up_eq _ _ _ _, up_eq _ _ _ _⟩)
theorem build_c (d : Nat) {σ : St} {μ : amM} (ok : σ.Ok) (h : CI σ μ) (x y z : Int) : OC μ (RD cr2 (d + 20) 101 [0, x, y, z] μ) (buildS σ x y z) := by
  have h64 := ok.t.le.2
  unfold buildS
  rw [M101, why_e _ ok h, bnd_s]
  by_cases q : σ.t.why x y z = 0
  · rw [if_pos q, if_pos q]
    obtain ⟨n, a, b, rfl, rfl, rfl, hn, ha, hb, hk, hf⟩ := why_0 q
    have hok : (σ.t.put n ((a : Int) / 10) ((a : Int) % 10) (hc (b : Int))).Ok := ok.t.put n (by omega) (fun _ => ⟨by omega, by omega, hc_R (by omega)⟩)
    rw [B101_1, codeOf_e _ _ (by omega), bnd_s, Int.tdiv_eq_ediv_of_nonneg (by omega), Int.tmod_eq_emod_of_nonneg (by omega), w32_i (by omega) (by omega), place_e _ (by omega), bnd_s, Int.toNat_natCast, houses_e _ hok (place_t h.tc n _ _ _), bnd_s]
    exact ⟨_, rfl, h.setT (SL_T n (place_s n _ _ _ _)) (place_t h.tc n _ _ _), SL_F n (place_s n _ _ _ _)⟩
  · rw [if_neg q, if_neg q]
    exact (OC.no _ h (why_R _ _ _ _).1 (why_R _ _ _ _).2).bi (fun _ _ => rfl)
theorem build_ok {σ : St} (ok : σ.Ok) (x y z : Int) : (buildS σ x y z).2.Ok := by
  unfold buildS
  refine if_ok (fun q => ?_) (fun _ => ok)
  obtain ⟨n, a, b, rfl, rfl, rfl, hn, ha, hb, hk, hf⟩ := why_0 q
  exact ok.setT (ok.t.put _ (by omega) (fun _ => ⟨by omega, by omega, hc_R (by omega)⟩))
/-- a house put into an empty lot is all right just if it may stand there -/
theorem put_right {t : Tn} (ok : t.Ok) {lot : Nat} (hl : lot < t.lots) {k m c : Int} (hk : k ≠ -1) : (t.nb lot).all (fun o => !(t.put lot k m c).wrong lot o) = (k == 5 || t.may lot c) := by
  have hb : (t.put lot k m c).bound lot = !(k == 5) := by
    unfold Tn.bound
    rw [put_kind_eq, beq_false_of_ne hk]; rfl
  unfold Tn.may
  have e : ∀ o ∈ t.nb lot, (!(t.put lot k m c).wrong lot o) = (k == 5 || (!t.bound o || t.go c (t.code o))) := by
    intro o ho
    have hne := ((ok.nbs hl).2 o ho).2
    have h1 : (t.put lot k m c).bound o = t.bound o := by
      unfold Tn.bound
      rw [put_kind_ne t _ _ _ hne]
    have h2 : (t.put lot k m c).go ((t.put lot k m c).code lot) ((t.put lot k m c).code o) = t.go c (t.code o) := by
      rw [put_code_eq, put_code_ne t _ _ _ hne]; rfl
    unfold Tn.wrong
    rw [h1, h2, hb]
    cases (k == 5) <;> cases t.bound o <;> cases t.go c (t.code o) <;> rfl
  cases hk5 : (k == 5) with
  | true =>
    rw [Bool.true_or, List.all_eq_true]
    intro o ho
    rw [e o ho, hk5]; rfl
  | false =>
    rw [Bool.false_or]
    apply Bool.eq_iff_iff.mpr
    rw [List.all_eq_true, List.all_eq_true]
    constructor
    · intro h o ho
      have := h o ho
      rw [e o ho, hk5, Bool.false_or] at this
      exact this
    · intro h o ho
      rw [e o ho, hk5, Bool.false_or]
      exact h o ho
theorem put_back {t : Tn} {lot : Nat} (h : t.kind lot = -1) (k m c m2 c2 : Int) : ((t.put lot k m c).put lot (-1) m2 c2).eqv t := by
  refine ⟨⟨rfl, rfl, rfl, rfl, rfl⟩, fun l _ => ?_⟩
  by_cases e : l = lot
  · subst e
    rw [put_kind_eq]
    exact ⟨h.symm, fun q => absurd rfl q⟩
  · rw [put_kind_ne _ _ _ _ e, put_m_ne _ _ _ _ e, put_code_ne _ _ _ _ e, put_kind_ne _ _ _ _ e, put_m_ne _ _ _ _ e, put_code_ne _ _ _ _ e]
    exact ⟨rfl, fun _ => ⟨rfl, rfl⟩⟩
theorem raises_e (d : Nat) {t : Tn} {μ : amM} (ok : t.Ok) (h : TM 72 t μ) {lot : Nat} (hl : lot < t.lots) (he : t.kind lot = -1) {km x : Int} (hm : 0 ≤ km ∧ km ≤ 69) (hx : 0 ≤ x ∧ x < 81) : ∃ μ', RD cr2 (d + 6) 189 [71, (lot : Int), km, x] μ = some (bi (t.fit lot km x), μ') ∧ TM 72 (bif t.fit lot km x then t.put lot (km / 10) (km % 10) (hc x) else t) μ' ∧ same (or2 hT ScM) μ μ' ∧ same FM μ μ' := by
  have h64 := ok.le.2
  have hok : (t.put lot (km / 10) (km % 10) (hc x)).Ok := ok.put lot (by omega) (fun _ => ⟨by omega, by omega, hc_R hx⟩)
  obtain ⟨μ1, a1, a2, a3⟩ := stands_e (d + 3) ok h hl hm hx
  obtain ⟨μ2, b1, b2, b3⟩ := findPairs_e (d + 3) hok a2
  have a2' := a2.keep b3 (fun _ => rfl)
  have r := mRight_e (d + 1) hok a2' b2 (lot := lot) hl
  have e : ((t.put lot (km / 10) (km % 10) (hc x)).nb lot).all (fun o => !(t.put lot (km / 10) (km % 10) (hc x)).wrong lot o) = t.fit lot km x := put_right ok hl (by omega)
  rw [e] at r
  have sT : same (or2 hT ScM) μ μ2 := (SM_T (by omega) a3).tr ((SP_Sc b3).wide (fun c i q => by
    have q := or2_r q
    unfold or2 h0
    rw [q]; rfl))
  have sF : same FM μ μ2 := (SM_F a3).tr (SP_F b3)
  rw [M189, a1, bnd_s, b1, bnd_s, r, bnd_s, ifb]
  cases hf : t.fit lot km x with
  | true => exact ⟨μ2, rfl, a2', sT, sF⟩
  | false =>
    obtain ⟨μ3, c1, c2, c3⟩ := empties_e (d + 3) hok a2' (lot := lot) hl 0 0
    refine ⟨μ3, ?_, c2.eqv (put_back he _ _ _ _ _), sT.tr (SM_T (by omega) c3), sF.tr (SM_F c3)⟩
    show At cr2 (d + 5) 189 1 [] [71, (lot : Int), 0, 0] μ2 = _
    rw [B189_1, c1, bnd_s]; rfl
theorem St.setT_t (σ : St) : σ.setT σ.t = σ := rfl
theorem build_m (d : Nat) {σ : St} {μ : amM} (ok : σ.Ok) (h : MI σ μ) (x y z : Int) : OM μ (RD cr2 (d + 20) 190 [71, x, y, z] μ) (buildS σ x y z) := by
  have h64 := ok.t.le.2
  have no1 : OM μ (At cr2 (d + 19) 190 1 [] [71, 0, 0, 0] μ) (σ.no 1) := by
    rw [B190_1]
    exact (OM.no _ ok h (by decide) (by decide)).bi (fun _ _ => rfl)
  unfold buildS Tn.why
  rw [M190, mLot_e _ ok h, bnd_s, ifb]
  cases h1 : σ.t.isLot x with
  | false => exact no1
  | true =>
    obtain ⟨n, rfl, hn⟩ := isLot_n h1
    simp only [cond_true]
    rw [in_e, bnd_s, ifb]
    cases h2 : (decide (0 ≤ y) && decide (y ≤ 69)) with
    | false => exact no1
    | true =>
      obtain ⟨a, rfl, ha⟩ := wi_n h2
      simp only [cond_true]
      rw [in_e, bnd_s, ifb]
      cases h3 : (decide (0 ≤ z) && decide (z ≤ 80)) with
      | false => exact no1
      | true =>
        obtain ⟨b, rfl, hb⟩ := wi_n h3
        simp only [cond_true]
        rw [B190_2, mEmpty_e _ ok.t h.tm hn, bnd_s, ifb, Int.toNat_natCast]
        cases h4 : (σ.t.kind n == -1) with
        | false => exact (OM.no _ ok h (by decide) (by decide)).bi (fun _ _ => rfl)
        | true =>
          have he := eq_of_beq h4
          obtain ⟨μ1, a1, a2, a3, a4⟩ := raises_e (d + 13) ok.t h.tm hn he (show 0 ≤ (a : Int) ∧ (a : Int) ≤ 69 by omega) (show 0 ≤ (b : Int) ∧ (b : Int) < 81 by omega)
          simp only [cond_true]
          rw [B190_3]
          refine OM.bs a1 (OM.tr ?_ a4)
          rw [ifb]
          cases hf : σ.t.fit n a b with
          | true =>
            rw [hf] at a2
            have a2 : TM 72 (σ.t.put n ((a : Int) / 10) ((a : Int) % 10) (hc (b : Int))) μ1 := a2
            have hok : (σ.t.put n ((a : Int) / 10) ((a : Int) % 10) (hc (b : Int))).Ok := ok.t.put n (by omega) (fun _ => ⟨by omega, by omega, hc_R (by omega)⟩)
            simp only [cond_true]
            rw [mHouses_e _ hok a2, bnd_s, B190_5]
            exact ⟨_, rfl, h.setT ok a3 a2, same.rf⟩
          | false =>
            rw [hf] at a2
            have hm : MI σ μ1 := h.setT (t := σ.t) ok a3 a2
            show OM μ1 (At cr2 (d + 19) 190 4 [] [71, 0, 0, 0] μ1) (σ.no 5)
            rw [B190_4]
            exact (OM.no _ ok hm (by decide) (by decide)).bi (fun _ _ => by rw [B190_5])
