theorem wf_e (c k : Nat) (μ : amM) (v : Int) (f : amM → amR) : wf c k μ v f = f (up μ c k v) := rfl
/-! ===== what both sides ask of their arguments; refusals; a lot's new house ===== -/
def Tn.isLot (t : Tn) (x : Int) : Bool := decide (0 ≤ x) && decide (x ≤ (t.lots : Int) - 1)
def St.no (σ : St) (k : Int) : Int × St := (-1000000000 - k, σ.ref k.toNat)
def Tn.put (t : Tn) (lot : Nat) (kind m c : Int) : Tn := (t.1, t.2.1, t.2.2.1, t.2.2.2.1, t.2.2.2.2.1, (fun i => if i = lot then kind else t.kind i), (fun i => if i = lot then m else t.m i), (fun i => if i = lot then c else t.code i))
theorem isLot_n {t : Tn} {x : Int} (h : t.isLot x = true) : ∃ n : Nat, x = n ∧ n < t.lots := by
  unfold Tn.isLot at h
  rw [Bool.and_eq_true] at h
  have h1 := of_decide_eq_true h.1
  have h2 := of_decide_eq_true h.2
  exact ⟨x.toNat, by omega, by omega⟩
theorem CI.tc {σ : St} {μ : amM} (h : CI σ μ) : TC 2 σ.t μ := h.1.1
theorem MI.tm {σ : St} {μ : amM} (h : MI σ μ) : TM 72 σ.t μ := h.1.1
theorem St.Ok.t {σ : St} (h : σ.Ok) : σ.t.Ok := h.1.1
theorem bnd_id (r : amR) {f : Int → amM → amR} (hf : ∀ v μ, f v μ = some (v, μ)) : bnd r f = r := by
  cases r with
  | none => rfl
  | some p => exact hf p.1 p.2
theorem OC.bi {μ : amM} {r : amR} {f : Int → amM → amR} {s : Int × St} (h : OC μ r s) (hf : ∀ v μ, f v μ = some (v, μ)) : OC μ (bnd r f) s := by
  rw [bnd_id r hf]
  exact h
theorem OM.bi {μ : amM} {r : amR} {f : Int → amM → amR} {s : Int × St} (h : OM μ r s) (hf : ∀ v μ, f v μ = some (v, μ)) : OM μ (bnd r f) s := by
  rw [bnd_id r hf]
  exact h
theorem PR.up {c : Nat} {f : Nat → Int} {μ : amM} (h : PR c f μ) (k : Nat) (v : Int) : PR c (fset f k v) (up μ c k v) := by
  intro j hj
  unfold fset
  by_cases e : j = k
  · rw [if_pos e, e, up_eq]
  · rw [if_neg e, up_ne _ _ _ _ (Or.inr e)]
    exact h j hj
theorem OC.no (d : Nat) {σ : St} {μ : amM} (h : CI σ μ) {k : Int} (h1 : 0 ≤ k) (h2 : k < 6) : OC μ (RD cr2 (d + 1) 141 [0, k] μ) (σ.no k) := by
  have e := h.2.2.2.1 k.toNat (by omega)
  refine ⟨up μ 62 k.toNat (w32 (σ.rf k.toNat + 1)), ?_, h.setR (same.rf.up rfl) (PR.up h.2.2.2.1 _ _), same.rf.up rfl⟩
  rw [M141, rd_p h1 h2, wr_p h1 h2, e, w32_i (x := -1000000000 - k) (by omega) (by omega)]
  rfl
theorem OM.no (d : Nat) {σ : St} {μ : amM} (ok : σ.Ok) (h : MI σ μ) {k : Int} (h1 : 0 ≤ k) (h2 : k < 6) : OM μ (RD cr2 (d + 1) 150 [71, k] μ) (σ.no k) := by
  have e := h.2.2.2.1 k.toNat (by omega)
  refine ⟨up μ 74 k.toNat (w32 (σ.rf k.toNat + 1)), ?_, h.setR ok (same.rf.up rfl) (PR.up h.2.2.2.1 _ _), same.rf.up rfl⟩
  rw [M150, rd_p h1 h2, wr_p h1 h2, e, w32_i (x := -1000000000 - k) (by omega) (by omega)]
  rfl
theorem isLot_e (d : Nat) {σ : St} {μ : amM} (ok : σ.Ok) (h : CI σ μ) (x : Int) : RD cr2 (d + 2) 143 [0, x] μ = some (bi (σ.t.isLot x), μ) := by
  have h64 := ok.t.le.2
  rw [M143, h.tc.1.2.2.2.1, w32_i (by omega) (by omega), isWithin_e, bnd_s, rb_bi]
  rfl
theorem mLot_e (d : Nat) {σ : St} {μ : amM} (ok : σ.Ok) (h : MI σ μ) (x : Int) : RD cr2 (d + 2) 154 [71, x] μ = some (bi (σ.t.isLot x), μ) := by
  have h64 := ok.t.le.2
  rw [M154, mLots_e d ok.t h.tm, bnd_s, w32_i (by omega) (by omega), in_e, bnd_s, rb_bi]
  rfl
theorem isEmpty_e (d : Nat) {σ : St} {μ : amM} (ok : σ.Ok) (h : CI σ μ) {n : Nat} (hn : n < σ.t.lots) : RD cr2 (d + 1) 144 [0, (n : Int)] μ = some (bi (σ.t.kind n == -1), μ) := by
  have h64 := ok.t.le.2
  rw [M144, rd_p (by omega) (by omega), Int.toNat_natCast, (h.tc.2.1 n hn).1]
  by_cases e : σ.t.kind n = -1
  · rw [if_pos e, B144_2, e]; rfl
  · rw [if_neg e, B144_1, B144_2, beq_false_of_ne e]; rfl
def isMS (k s : Int) : Bool := (decide (0 ≤ k) && decide (k ≤ 3)) && (decide (0 ≤ s) && decide (s ≤ 2))
theorem isMS_n {k s : Int} (h : isMS k s = true) : ∃ a b : Nat, k = a ∧ s = b ∧ a < 4 ∧ b < 3 := by
  unfold isMS at h
  rw [Bool.and_eq_true, Bool.and_eq_true, Bool.and_eq_true] at h
  have h1 := of_decide_eq_true h.1.1
  have h2 := of_decide_eq_true h.1.2
  have h3 := of_decide_eq_true h.2.1
  have h4 := of_decide_eq_true h.2.2
  exact ⟨k.toNat, s.toNat, by omega, by omega, by omega, by omega⟩
theorem isMS_e (d : Nat) (k s : Int) (μ : amM) : RD cr2 (d + 2) 145 [k, s] μ = some (bi (isMS k s), μ) := by
  rw [M145, isWithin_e, bnd_s]
  unfold isMS
  cases decide (0 ≤ k) && decide (k ≤ 3) with
  | false => rw [ifb]; show At cr2 (d + 1) 145 1 [] [0, 0] μ = _; rw [B145_1, B145_2]; rfl
  | true =>
    rw [ifb, cond_true]
    rw [isWithin_e, bnd_s]
    cases decide (0 ≤ s) && decide (s ≤ 2) with
    | false => rw [ifb]; show At cr2 (d + 1) 145 1 [] [0, 0] μ = _; rw [B145_1, B145_2]; rfl
    | true => rw [ifb]; show At cr2 (d + 1) 145 2 [1] [0, 0] μ = _; rw [B145_2]; rfl
theorem mSort_e (d : Nat) (k s : Int) (μ : amM) : RD cr2 (d + 2) 197 [k, s] μ = some (bi (isMS k s), μ) := by
  rw [M197, in_e, bnd_s]
  unfold isMS
  cases decide (0 ≤ k) && decide (k ≤ 3) with
  | false => rw [ifb]; show At cr2 (d + 1) 197 1 [] [0, 0] μ = _; rw [B197_1, B197_2]; rfl
  | true =>
    rw [ifb, cond_true]
    rw [in_e, bnd_s]
    cases decide (0 ≤ s) && decide (s ≤ 2) with
    | false => rw [ifb]; show At cr2 (d + 1) 197 1 [] [0, 0] μ = _; rw [B197_1, B197_2]; rfl
    | true => rw [ifb]; show At cr2 (d + 1) 197 2 [1] [0, 0] μ = _; rw [B197_2]; rfl
theorem isKm_e (d : Nat) (x : Int) (μ : amM) : RD cr2 (d + 2) 146 [x] μ = some (bi (decide (0 ≤ x) && decide (x ≤ 69)), μ) := by
  rw [M146, isWithin_e, bnd_s, rb_bi]
theorem isSheet_e (d : Nat) (x : Int) (μ : amM) : RD cr2 (d + 2) 147 [x] μ = some (bi (decide (0 ≤ x) && decide (x ≤ 3)), μ) := by
  rw [M147, isWithin_e, bnd_s, rb_bi]
theorem mSheet_e (d : Nat) (x : Int) (μ : amM) : RD cr2 (d + 2) 249 [x] μ = some (bi (decide (0 ≤ x) && decide (x ≤ 3)), μ) := by
  rw [M249, in_e, bnd_s, rb_bi]
theorem wi_n {x : Int} {a : Int} (h : (decide (0 ≤ x) && decide (x ≤ a)) = true) : ∃ n : Nat, x = n ∧ (n : Int) ≤ a := by
  rw [Bool.and_eq_true] at h
  have h1 := of_decide_eq_true h.1
  have h2 := of_decide_eq_true h.2
  exact ⟨x.toNat, by omega, by omega⟩
/-! ===== a lot's house is another ===== -/
theorem put_kind_eq (t : Tn) (lot : Nat) (k m c : Int) : (t.put lot k m c).kind lot = k := if_pos rfl
theorem put_kind_ne (t : Tn) {lot l : Nat} (k m c : Int) (h : l ≠ lot) : (t.put lot k m c).kind l = t.kind l := if_neg h
theorem put_m_eq (t : Tn) (lot : Nat) (k m c : Int) : (t.put lot k m c).m lot = m := if_pos rfl
theorem put_m_ne (t : Tn) {lot l : Nat} (k m c : Int) (h : l ≠ lot) : (t.put lot k m c).m l = t.m l := if_neg h
theorem put_code_eq (t : Tn) (lot : Nat) (k m c : Int) : (t.put lot k m c).code lot = c := if_pos rfl
theorem put_code_ne (t : Tn) {lot l : Nat} (k m c : Int) (h : l ≠ lot) : (t.put lot k m c).code l = t.code l := if_neg h
theorem Tn.Ok.put {t : Tn} (ok : t.Ok) (lot : Nat) {k m c : Int} (hk : -1 ≤ k ∧ k ≤ 6) (hr : k ≠ -1 → 0 ≤ m ∧ m ≤ 9 ∧ 0 ≤ c ∧ c < 256) : (t.put lot k m c).Ok := by
  refine ⟨ok.1, fun l hl => ?_⟩
  by_cases e : l = lot
  · subst e
    rw [put_kind_eq, put_m_eq, put_code_eq]
    exact ⟨hk, hr⟩
  · rw [put_kind_ne t _ _ _ e, put_m_ne t _ _ _ e, put_code_ne t _ _ _ e]
    exact ok.2 l hl
def SL (lot c i : Nat) : Bool := (Nat.beq c 3 || Nat.beq c 4 || Nat.beq c 5) && Nat.beq i lot
theorem TC.put {t : Tn} {μ μ' : amM} (h : TC 2 t μ) {lot : Nat} {k m c : Int} (hs : same (SL lot) μ μ') (h1 : μ' 3 lot = k) (h2 : k ≠ -1 → μ' 4 lot = m ∧ μ' 5 lot = c) : TC 2 (t.put lot k m c) μ' := by
  obtain ⟨⟨a1, a2, a3, a4, a5, a6⟩, b1, c1⟩ := h
  refine ⟨⟨(hs _ _ rfl).trans a1, (hs _ _ rfl).trans a2, (hs _ _ rfl).trans a3, (hs _ _ rfl).trans a4, (hs _ _ rfl).trans a5, (hs _ _ rfl).trans a6⟩, fun l hl => ?_, fun l hl => ?_⟩
  · by_cases e : l = lot
    · subst e
      rw [put_kind_eq, put_m_eq, put_code_eq]
      exact ⟨h1, h2⟩
    · rw [put_kind_ne t _ _ _ e, put_m_ne t _ _ _ e, put_code_ne t _ _ _ e]
      have f : ∀ c, SL lot c l = false := fun c => by unfold SL; rw [beq_f e, Bool.and_false]
      show μ' 3 l = _ ∧ (_ → μ' 4 l = _ ∧ μ' 5 l = _)
      rw [hs _ _ (f _), hs _ _ (f _), hs _ _ (f _)]
      exact b1 l hl
  · exact ⟨(hs _ _ rfl).trans (c1 l hl).1, fun i hi => (hs _ _ rfl).trans ((c1 l hl).2 i hi)⟩
theorem SL_T (lot : Nat) {μ μ' : amM} (h : same (SL lot) μ μ') : same (or2 gT ScC) μ μ' := by
  refine h.wide (fun c i q => ?_)
  have q := or2_l q
  unfold gT at q
  unfold SL
  cases e3 : Nat.beq c 3 with
  | true => rw [Nat.eq_of_beq_eq_true e3] at q; cases q
  | false =>
    cases e4 : Nat.beq c 4 with
    | true => rw [Nat.eq_of_beq_eq_true e4] at q; cases q
    | false =>
      cases e5 : Nat.beq c 5 with
      | true => rw [Nat.eq_of_beq_eq_true e5] at q; cases q
      | false => rfl
theorem SL_F (lot : Nat) {μ μ' : amM} (h : same (SL lot) μ μ') : same FC μ μ' := by
  refine h.wide (fun c i q => ?_)
  unfold SL
  cases e3 : Nat.beq c 3 with
  | true => rw [Nat.eq_of_beq_eq_true e3] at q; cases q
  | false =>
    cases e4 : Nat.beq c 4 with
    | true => rw [Nat.eq_of_beq_eq_true e4] at q; cases q
    | false =>
      cases e5 : Nat.beq c 5 with
      | true => rw [Nat.eq_of_beq_eq_true e5] at q; cases q
      | false => rfl
/-- likewise in the reference's row -/
def SM (lot c i : Nat) : Bool := Nat.beq c 72 && (Nat.beq i (20 + lot) || Nat.beq i (84 + lot) || (Nat.ble (148 + 4 * lot) i && Nat.ble i (151 + 4 * lot)))
theorem SM_o {lot c i : Nat} (h : c ≠ 72) : SM lot c i = false := by
  unfold SM
  rw [beq_f h]; rfl
theorem SM_i {lot i : Nat} (h1 : i ≠ 20 + lot) (h2 : i ≠ 84 + lot) (h3 : i < 148 + 4 * lot ∨ 151 + 4 * lot < i) : SM lot 72 i = false := by
  unfold SM
  rw [beq_f h1, beq_f h2]
  rcases h3 with h3 | h3
  · rw [ble_f h3]; rfl
  · rw [ble_f h3, Bool.and_false]; rfl
theorem TM.put {t : Tn} {μ μ' : amM} (ok : t.Ok) (h : TM 72 t μ) {lot : Nat} (hl : lot < t.lots) {k m c : Int} (hs : same (SM lot) μ μ') (h1 : μ' 72 (20 + lot) = k + 1) (h2 : k ≠ -1 → μ' 72 (84 + lot) = m ∧ ∀ j, j < 4 → μ' 72 (148 + 4 * lot + j) = mk c j) : TM 72 (t.put lot k m c) μ' := by
  have h64 := ok.le.2
  obtain ⟨⟨a1, a2, a3, a4, a5⟩, b1⟩ := h
  have f : ∀ i, i < 5 → SM lot 72 i = false := fun i hi => SM_i (by omega) (by omega) (by omega)
  refine ⟨⟨(hs _ _ (f _ (by decide))).trans a1, (hs _ _ (f _ (by decide))).trans a2, (hs _ _ (f _ (by decide))).trans a3, (hs _ _ (f _ (by decide))).trans a4, (hs _ _ (f _ (by decide))).trans a5⟩, fun l hl' => ?_⟩
  have hl' : l < t.lots := hl'
  by_cases e : l = lot
  · subst e
    rw [put_kind_eq, put_m_eq, put_code_eq]
    exact ⟨h1, h2⟩
  · rw [put_kind_ne t _ _ _ e, put_m_ne t _ _ _ e, put_code_ne t _ _ _ e]
    rw [hs _ _ (SM_i (by omega) (by omega) (by omega)), hs _ _ (SM_i (by omega) (by omega) (by omega))]
    refine ⟨(b1 l hl').1, fun hn => ⟨((b1 l hl').2 hn).1, fun j hj => ?_⟩⟩
    rw [hs _ _ (SM_i (by omega) (by omega) (by omega))]
    exact ((b1 l hl').2 hn).2 j hj
theorem SM_T {lot : Nat} (hl : lot < 64) {μ μ' : amM} (h : same (SM lot) μ μ') : same (or2 hT ScM) μ μ' := by
  refine h.wide (fun c i q => ?_)
  have q := or2_l q
  by_cases e : c = 72
  · subst e
    unfold hT at q
    have q2 : (Nat.ble i 4 || Nat.ble 20 i && Nat.ble i 403) = false := q
    rw [Bool.or_eq_false_iff] at q2
    have g : ¬ (20 ≤ i ∧ i ≤ 403) := fun g => by
      rw [ble_t g.1, ble_t g.2] at q2
      cases q2.2
    exact SM_i (by omega) (by omega) (by omega)
  · exact SM_o e
theorem SM_F {lot : Nat} {μ μ' : amM} (h : same (SM lot) μ μ') : same FM μ μ' := by
  refine h.wide (fun c i q => ?_)
  by_cases e : c = 72
  · subst e
    cases q
  · exact SM_o e
theorem sets_e (d : Nat) {t : Tn} (ok : t.Ok) {lot k : Nat} (hl : lot < t.lots) (hk : k < 4) (s : Int) (μ : amM) : RD cr2 (d + 1) 158 [71, (lot : Int), (k : Int), s] μ = some (0, up μ 72 (148 + 4 * lot + k) s) := by
  have h64 := ok.le.2
  rw [M158, w32_i (x := 4 * (lot : Int)) (by omega) (by omega), w32_i (x := 148 + 4 * (lot : Int)) (by omega) (by omega), w32_i (by omega) (by omega), wr_p (by omega) (by omega), show ((148 : Int) + 4 * lot + k).toNat = 148 + 4 * lot + k by omega]
theorem SM_t1 (lot : Nat) : SM lot 72 (20 + lot) = true := by
  unfold SM
  rw [Nat.beq_refl (20 + lot)]; rfl
theorem SM_t2 (lot : Nat) : SM lot 72 (84 + lot) = true := by
  unfold SM
  rw [Nat.beq_refl (84 + lot), Bool.or_true]; rfl
theorem SM_t3 (lot : Nat) {k : Nat} (hk : k < 4) : SM lot 72 (148 + 4 * lot + k) = true := by
  unfold SM
  rw [ble_t (by omega), ble_t (by omega), Bool.and_self, Bool.or_true]; rfl
/-- a row's number put into the memory, looked at -/
theorem up_if (μ : amM) (c i : Nat) (v : Int) (j : Nat) : up μ c i v c j = if j = i then v else μ c j := by
  by_cases e : j = i
  · rw [if_pos e, e, up_eq]
  · rw [if_neg e, up_ne _ _ _ _ (Or.inr e)]
def stM (μ : amM) (lot : Nat) (a b c0 c1 c2 c3 : Int) : amM := up (up (up (up (up (up μ 72 (20 + lot) a) 72 (84 + lot) b) 72 (148 + 4 * lot + 0) c0) 72 (148 + 4 * lot + 1) c1) 72 (148 + 4 * lot + 2) c2) 72 (148 + 4 * lot + 3) c3
theorem stM_s (μ : amM) (lot : Nat) (a b c0 c1 c2 c3 : Int) : same (SM lot) μ (stM μ lot a b c0 c1 c2 c3) := (((((same.rf.up (SM_t1 lot)).up (SM_t2 lot)).up (SM_t3 lot (by decide))).up (SM_t3 lot (by decide))).up (SM_t3 lot (by decide))).up (SM_t3 lot (by decide))
theorem stM_T {t : Tn} {μ : amM} (ok : t.Ok) (h : TM 72 t μ) {lot : Nat} (hl : lot < t.lots) {a b c0 c1 c2 c3 k m c : Int} (h1 : a = k + 1) (h2 : k ≠ -1 → b = m ∧ c0 = mk c 0 ∧ c1 = mk c 1 ∧ c2 = mk c 2 ∧ c3 = mk c 3) : TM 72 (t.put lot k m c) (stM μ lot a b c0 c1 c2 c3) := by
  have h64 := ok.le.2
  refine h.put ok hl (stM_s μ lot a b c0 c1 c2 c3) ?_ (fun hk => ⟨?_, fun j hj => ?_⟩)
  · unfold stM
    rw [up_if, if_neg (by omega), up_if, if_neg (by omega), up_if, if_neg (by omega), up_if, if_neg (by omega), up_if, if_neg (by omega), up_if, if_pos rfl, h1]
  · unfold stM
    rw [up_if, if_neg (by omega), up_if, if_neg (by omega), up_if, if_neg (by omega), up_if, if_neg (by omega), up_if, if_pos rfl]
    exact (h2 hk).1
  · unfold stM
    match j, hj with
    | 0, _ => rw [up_if, if_neg (by omega), up_if, if_neg (by omega), up_if, if_neg (by omega), up_if, if_pos rfl]; exact (h2 hk).2.1
    | 1, _ => rw [up_if, if_neg (by omega), up_if, if_neg (by omega), up_if, if_pos rfl]; exact (h2 hk).2.2.1
    | 2, _ => rw [up_if, if_neg (by omega), up_if, if_pos rfl]; exact (h2 hk).2.2.2.1
    | 3, _ => rw [up_if, if_pos rfl]; exact (h2 hk).2.2.2.2
theorem stands_e (d : Nat) {t : Tn} {μ : amM} (ok : t.Ok) (h : TM 72 t μ) {lot : Nat} (hl : lot < t.lots) {km x : Int} (hm : 0 ≤ km ∧ km ≤ 69) (hx : 0 ≤ x ∧ x < 81) : ∃ μ', RD cr2 (d + 2) 182 [71, (lot : Int), km, x] μ = some (0, μ') ∧ TM 72 (t.put lot (km / 10) (km % 10) (hc x)) μ' ∧ same (SM lot) μ μ' := by
  have h64 := ok.le.2
  have q := mk_hc hx
  have t1 : km.tdiv 10 = km / 10 := Int.tdiv_eq_ediv_of_nonneg hm.1
  have t2 : km.tmod 10 = km % 10 := Int.tmod_eq_emod_of_nonneg hm.1
  have t3 : x.tdiv 27 = x / 27 := Int.tdiv_eq_ediv_of_nonneg hx.1
  have t4 : x.tdiv 9 = x / 9 := Int.tdiv_eq_ediv_of_nonneg hx.1
  have t5 : x.tdiv 3 = x / 3 := Int.tdiv_eq_ediv_of_nonneg hx.1
  have t6 : x.tmod 3 = x % 3 := Int.tmod_eq_emod_of_nonneg hx.1
  have t7 : (x / 9).tmod 3 = x / 9 % 3 := Int.tmod_eq_emod_of_nonneg (by omega)
  have t8 : (x / 3).tmod 3 = x / 3 % 3 := Int.tmod_eq_emod_of_nonneg (by omega)
  have s0 := sets_e d ok hl (k := 0) (by decide)
  have s1 := sets_e d ok hl (k := 1) (by decide)
  have s2 := sets_e d ok hl (k := 2) (by decide)
  have s3 := sets_e d ok hl (k := 3) (by decide)
  have e0 : ((0 : Nat) : Int) = 0 := rfl
  have e1 : ((1 : Nat) : Int) = 1 := rfl
  have e2 : ((2 : Nat) : Int) = 2 := rfl
  have e3 : ((3 : Nat) : Int) = 3 := rfl
  rw [e0] at s0
  rw [e1] at s1
  rw [e2] at s2
  rw [e3] at s3
  have E : RD cr2 (d + 2) 182 [71, (lot : Int), km, x] μ = some (0, stM μ lot (1 + km / 10) (km % 10) (x / 27) (x / 9 % 3) (x / 3 % 3) (x % 3)) := by
    rw [M182, w32_i (x := 20 + (lot : Int)) (by omega) (by omega), wr_p (by omega) (by omega), w32_i (x := 84 + (lot : Int)) (by omega) (by omega), wr_p (by omega) (by omega), t1, t2, t3, t4, t5, t6, w32_i (x := x / 27) (by omega) (by omega), w32_i (x := x / 9) (by omega) (by omega), w32_i (x := x / 3) (by omega) (by omega), t7, t8, w32_i (x := km / 10) (by omega) (by omega), w32_i (x := 1 + km / 10) (by omega) (by omega), s0, bnd_s, s1, bnd_s, s2, bnd_s, s3, bnd_s, show ((20 : Int) + lot).toNat = 20 + lot by omega, show ((84 : Int) + lot).toNat = 84 + lot by omega]
    rfl
  exact ⟨_, E, stM_T ok h hl (by omega) (fun _ => ⟨rfl, q.1.symm, q.2.1.symm, q.2.2.1.symm, q.2.2.2.symm⟩), stM_s _ _ _ _ _ _ _ _⟩
theorem empties_e (d : Nat) {t : Tn} {μ : amM} (ok : t.Ok) (h : TM 72 t μ) {lot : Nat} (hl : lot < t.lots) (m c : Int) : ∃ μ', RD cr2 (d + 2) 183 [71, (lot : Int)] μ = some (0, μ') ∧ TM 72 (t.put lot (-1) m c) μ' ∧ same (SM lot) μ μ' := by
  have h64 := ok.le.2
  have st : ∀ (k : Nat) (μ : amM), k < 4 → At cr2 (d + 1) 183 1 [] [71, (lot : Int), (k : Int)] μ = At cr2 (d + 1) 183 1 [] [71, (lot : Int), ((k + 1 : Nat) : Int)] (up μ 72 (148 + 4 * lot + k) 0) := fun k μ hk => by
    rw [B183_1, if_pos (by omega), sets_e d ok hl hk, bnd_s, w32_i (by omega) (by omega)]
    rfl
  have E : RD cr2 (d + 2) 183 [71, (lot : Int)] μ = some (0, stM μ lot 0 0 0 0 0 0) := by
    rw [M183, w32_i (x := 20 + (lot : Int)) (by omega) (by omega), wr_p (by omega) (by omega), w32_i (x := 84 + (lot : Int)) (by omega) (by omega), wr_p (by omega) (by omega), show ((20 : Int) + lot).toNat = 20 + lot by omega, show ((84 : Int) + lot).toNat = 84 + lot by omega]
    refine (st 0 _ (by decide)).trans ((st 1 _ (by decide)).trans ((st 2 _ (by decide)).trans ((st 3 _ (by decide)).trans ?_)))
    rw [B183_1, if_neg (by decide), B183_2]
    rfl
  exact ⟨_, E, stM_T ok h hl rfl (fun q => absurd rfl q), stM_s _ _ _ _ _ _ _ _⟩
