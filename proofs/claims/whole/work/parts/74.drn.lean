/-! ===== rings in the class; a row drawn ===== -/
theorem SY_kept : ∀ c i, 19 ≤ c → c ≤ 36 → SY c i = false := fun c i h1 h2 => by
  cases e : SY c i with
  | false => rfl
  | true =>
    rcases SY_e e with ⟨q, -⟩ | q | q <;> omega
theorem SY_sh : ∀ c i, 63 ≤ c → c ≤ 70 → SY c i = false := fun c i h1 h2 => by
  cases e : SY c i with
  | false => rfl
  | true =>
    rcases SY_e e with ⟨q, -⟩ | q | q <;> omega
theorem CI.hc {σ : St} {μ : amM} (h : CI σ μ) : HC μ := h.2.2.2.2.2.2.2
theorem CI.pp {σ : St} {μ : amM} (h : CI σ μ) : ∃ p, PP p μ := by
  rcases h.2.2.2.2.2.2.1 with ⟨a, b⟩ | ⟨a, b⟩
  · exact ⟨57, Or.inl rfl, a, b⟩
  · exact ⟨58, Or.inr rfl, a, b⟩
theorem CI.ky {σ : St} {μ μ' : amM} (h : CI σ μ) (hs : same SY μ μ') {p : Nat} (hp : PP p μ') : CI σ μ' := by
  have hh := h.hc.ky hs
  obtain ⟨⟨b1, b2, b3, ⟨b4, b5⟩, b6⟩, a2, a3, a4, a5, a6, a7⟩ := h
  refine ⟨⟨b1.ky hs, b2.keep hs rfl (fun _ => rfl), b3.keep hs rfl (fun _ => rfl), ⟨b4.keep hs rfl (fun _ => rfl), b5.keep hs rfl (fun _ => rfl)⟩, b6.keep hs rfl rfl rfl⟩, fun g => (a2 g).keep hs (fun _ _ => SY_kept _ _ (by decide) (by decide)) (fun _ _ => SY_kept _ _ (by decide) (by decide)) (fun j _ _ _ => SY_kept _ _ (by omega) (by omega)) (fun _ => SY_kept _ _ (by decide) (by decide)) (fun _ => SY_kept _ _ (by decide) (by decide)) (SY_kept _ _ (by decide) (by decide)) (fun _ => SY_kept _ _ (by decide) (by decide)) (SY_kept _ _ (by decide) (by decide)) (fun _ => SY_kept _ _ (by decide) (by decide)), (hs _ _ rfl).trans a3, a4.keep hs (fun _ => rfl), a5.keep hs SY_sh, a6.keep hs rfl (fun _ => rfl), ?_, hh⟩
  rcases hp with ⟨rfl | rfl, a, b⟩
  · exact Or.inl ⟨a, b⟩
  · exact Or.inr ⟨a, b⟩
theorem SY_F {μ μ' : amM} (h : same SY μ μ') : same FC μ μ' := by
  refine h.wide (fun c i q => ?_)
  cases e : SY c i with
  | false => rfl
  | true =>
    rcases SY_e e with ⟨rfl, rfl | rfl⟩ | rfl | rfl <;> cases q
theorem vL_1 (t : Tn) : t.vL (-1) := Or.inl rfl
theorem cx_11 (t : Tn) (v : Nat → Int) (i : Nat) : t.cx (-1) (-1) v i = t.nx v i := by
  unfold Tn.cx Tn.nx
  rw [opt_t (any_1 t)]
  refine sm_congr 81 (fun j _ => ?_)
  unfold Tn.TT Tn.G Tn.lk
  rw [cc_t (any_1 t), cc_t (any_1 t), any_1, Bool.true_or, Bool.true_and, Bool.not_true, Bool.false_or]
theorem start_in (d : Nat) (N : Int) {p : Nat} : ∀ (n i : Nat) (μ : amM), i + n = 81 → PP p μ → VW p i (dlt 0) μ → ∃ μ', At cr2 d 91 1 [] [55, 2, N, (i : Int)] μ = At cr2 d 91 4 [] [55, 2, N, 0] μ' ∧ VW p 81 (dlt 0) μ' ∧ PP p μ' ∧ same SY μ μ'
  | 0, i, μ, hi, hp, h => by
    rw [B91_1, if_neg (by omega)]
    rw [show i = 81 by omega] at h
    exact ⟨μ, rfl, h, hp, same.rf⟩
  | n + 1, i, μ, hi, hp, h => by
    obtain ⟨o1, o2, o3, o4, o5⟩ := hp.o
    obtain ⟨μ', g1, g2, g3, g4⟩ := start_in d N (p := p) n (i + 1) (up μ p i (dlt 0 i)) (by omega) ⟨hp.1, (up_ne _ _ _ _ (Or.inl (Ne.symm o3))).trans hp.2.1, (up_ne _ _ _ _ (Or.inl (Ne.symm o3))).trans hp.2.2⟩ (fun k hk => by
      by_cases q : k = i
      · rw [q, up_eq]
        unfold dlt
        by_cases q2 : i = 0
        · rw [if_pos q2, w64_1]
        · rw [if_neg q2, w64_0]
      · rw [up_ne _ _ _ _ (Or.inr q)]
        exact h k (by omega))
    refine ⟨μ', ?_, g2, g3, (same.rf.up (SY_p hp.1 i)).tn g4⟩
    have e : dlt 0 i = if i = 0 then 1 else 0 := rfl
    have a1 : (0 : Int) ≤ (p : Int) := by omega
    rw [B91_1, if_pos (by omega), hp.2.1, if_pos a1]
    by_cases q : i = 0
    · rw [if_pos (by omega), B91_3, p78_st hp.1 (by omega), w32_i (by omega) (by omega)]
      rw [e, if_pos q] at g1
      exact g1
    · rw [if_neg (by omega), B91_2, B91_3, p78_st hp.1 (by omega), w32_i (by omega) (by omega)]
      rw [e, if_neg q] at g1
      exact g1
theorem go_in (d : Nat) {t : Tn} (ok : t.Ok) {N : Nat} (hN : N ≤ 9) : ∀ (n i : Nat) (v : Nat → Int) (p : Nat) (μ : amM), i + n = N → TC 2 t μ → HC μ → PP p μ → VW p 81 v μ → ∃ μ' p', At cr2 (d + 5) 91 5 [] [55, 2, (N : Int), (i : Int)] μ = At cr2 (d + 5) 91 6 [] [55, 0, 0, 0] μ' ∧ VW p' 81 (t.nxs n v) μ' ∧ PP p' μ' ∧ same SY μ μ'
  | 0, i, v, p, μ, hi, h, hh, hp, hv => by
    rw [B91_5, if_neg (by omega)]
    exact ⟨μ, p, rfl, hv, hp, same.rf⟩
  | n + 1, i, v, p, μ, hi, h, hh, hp, hv => by
    obtain ⟨μ1, g1, g2, g3, g4⟩ := carry_e d ok h hh (vL_1 t) (vL_1 t) hp (v := v) (by rw [opt_t (any_1 t)]; exact hv)
    rw [opt_t (any_1 t)] at g2
    obtain ⟨μ', p', k1, k2, k3, k4⟩ := go_in d ok hN n (i + 1) (t.nx v) (115 - p) μ1 (by omega) (h.ky g4) (hh.ky g4) g3 (fun i hi => (g2 i hi).trans (by rw [cx_11]))
    refine ⟨μ', p', ?_, k2, k3, g4.tn k4⟩
    rw [B91_5, if_pos (by omega), g1, bnd_s, w32_i (by omega) (by omega)]
    exact k1
theorem ring91_e (d : Nat) {t : Tn} {μ : amM} (ok : t.Ok) (h : TC 2 t μ) (hh : HC μ) {p : Nat} (hp : PP p μ) {N : Nat} (hN : N ≤ 9) : ∃ μ' p', RD cr2 (d + 6) 91 [55, 2, (N : Int)] μ = some (w64 (81 * t.nxs N (dlt 0) 0), μ') ∧ PP p' μ' ∧ same SY μ μ' := by
  obtain ⟨μ1, a1, a2, a3, a4⟩ := start_in (d + 5) (N : Int) (p := p) 81 0 μ rfl hp (fun i hi => by omega)
  obtain ⟨μ2, p', b1, b2, b3, b4⟩ := go_in d ok hN N 0 (dlt 0) p μ1 (by omega) (h.ky a4) (hh.ky a4) a3 a2
  refine ⟨μ2, p', ?_, b3, a4.tn b4⟩
  rw [M91]
  refine a1.trans ?_
  rw [B91_4]
  refine b1.trans ?_
  have a0 : (0 : Int) ≤ (p' : Int) := by omega
  have e := p78_ld b3.1 (μ := μ2) (i := 0) (by decide) (f := fun v1 => some ((w64 (81 * v1)), μ2))
  rw [B91_6, b3.2.1, if_pos a0]
  refine e.trans ?_
  rw [b2 0 (by decide), w64_mr]
theorem rings_c (d : Nat) {σ : St} {μ : amM} (ok : σ.Ok) (h : CI σ μ) (n : Int) : OC μ (RD cr2 (d + 20) 117 [0, n] μ) (ringsS σ n) := by
  unfold ringsS
  rw [M117, isWithin_e, bnd_s, ifb]
  refine OC.cd (fun hl => ?_) (fun _ => (OC.no _ h (by decide) (by decide)).bi (fun _ _ => rfl))
  obtain ⟨N, rfl, h1, h2⟩ := wi_an (by decide) hl
  obtain ⟨p, hp⟩ := h.pp
  obtain ⟨μ', p', g1, g2, g3⟩ := ring91_e (d + 13) ok.t h.tc h.hc hp (N := N) (by omega)
  rw [B117_1, Int.toNat_natCast]
  refine OC.bs g1 ?_
  exact ⟨μ', rfl, h.ky g3 g2, SY_F g3⟩
/-! a row drawn -/
theorem sel_z {P : Int → Bool} (z z' : Int) : ∀ (n x : Nat) (i : Int), 0 ≤ i → i + (cntB P x : Int) < (cntB P (x + n) : Int) → sel P z n (x : Int) i = sel P z' n (x : Int) i ∧ 0 ≤ sel P z n (x : Int) i ∧ sel P z n (x : Int) i < (x + n : Nat)
  | 0, x, i, h0, h => by
    exfalso
    rw [Nat.add_zero] at h
    omega
  | n + 1, x, i, h0, h => by
    have ih := fun i => sel_z (P := P) z z' n (x + 1) i
    have e := cntB_succ P x
    rw [show ((x + 1 : Nat) : Int) = (x : Int) + 1 from rfl, show x + 1 + n = x + (n + 1) by omega] at ih
    unfold sel
    cases q : P (x : Int) with
    | true =>
      rw [q, if_pos rfl] at e
      rw [if_pos rfl, if_pos rfl]
      by_cases q0 : i = 0
      · rw [if_pos q0, if_pos q0]
        exact ⟨rfl, by omega, by omega⟩
      · rw [if_neg q0, if_neg q0]
        exact ih (i - 1) (by omega) (by omega)
    | false =>
      rw [q, if_neg (by decide)] at e
      rw [if_neg (by decide), if_neg (by decide)]
      exact ih i h0 (by omega)
def St.dh (σ : St) (i : Nat) (x : Int) : Int := if i = 0 then (dv (drw σ.k.z)).tmod 81 else sel (fun y => σ.t.go (hc x) (hc y)) 0 81 0 ((dv (drw σ.k.z)).tmod σ.t.M)
def St.ds (σ : St) (k i : Nat) (x : Int) : St := (σ.setY σ.k.y σ.k.s (drw σ.k.z)).setK k (σ.sb k) (σ.ss k) (fset (σ.sn k) i (σ.dh i x))
def dr : Nat → St → Nat → Nat → Int → St
  | 0, σ, _, _, _ => σ
  | n + 1, σ, k, i, x => dr n (σ.ds k i x) k (i + 1) (σ.dh i x)
def drawnS (σ : St) (s : Int) : Int × St := bif isSh s then (bif σ.sb s.toNat == 0 then σ.no 2 else ((σ.ss s.toNat : Int), dr (σ.ss s.toNat) σ s.toNat 0 0)) else σ.no 1
theorem dh_R {σ : St} (ok : σ.Ok) (i : Nat) {x : Int} (hx : 0 ≤ x ∧ x < 81) : 0 ≤ σ.dh i x ∧ σ.dh i x ≤ 80 := by
  have d1 := dv_R (drw σ.k.z)
  have mp := M_pos ok.t
  unfold St.dh
  by_cases q : i = 0
  · rw [if_pos q, Int.tmod_eq_emod_of_nonneg d1.1]
    omega
  · rw [if_neg q, Int.tmod_eq_emod_of_nonneg d1.1]
    have m1 := Int.emod_nonneg (dv (drw σ.k.z)) (show σ.t.M ≠ 0 by omega)
    have m2 := Int.emod_lt_of_pos (dv (drw σ.k.z)) mp.1
    obtain ⟨a, rfl⟩ := Int.eq_ofNat_of_zero_le hx.1
    have c := M_count σ.t (a := a) (by omega)
    have s := sel_z (P := fun y => σ.t.go (hc (a : Int)) (hc y)) 0 0 81 0 ((dv (drw σ.k.z)) % σ.t.M) m1 (by
      show _ + ((0 : Nat) : Int) < (cntB (fun y => σ.t.go (hc (a : Int)) (hc y)) 81 : Int)
      omega)
    rw [show ((0 : Nat) : Int) = 0 from rfl] at s
    exact ⟨s.2.1, by have := s.2.2; omega⟩
theorem ds_ok {σ : St} (ok : σ.Ok) {k : Nat} (hk : k < 4) (i : Nat) (x : Int) : (σ.ds k i x).Ok := by
  have oky : (σ.setY σ.k.y σ.k.s (drw σ.k.z)).Ok := ok.setY ok.1.2.2.2.2.1 ok.1.2.2.2.2.2.1 (drw_i _)
  exact oky.setK (ok.2.2.1 k hk).1 (ok.2.2.1 k hk).2
theorem dr_ok {k : Nat} (hk : k < 4) : ∀ (n : Nat) {σ : St} (i : Nat) (x : Int), σ.Ok → (dr n σ k i x).Ok
  | 0, _, _, _, ok => ok
  | n + 1, _, i, x, ok => dr_ok hk n (i + 1) _ (ds_ok ok hk i x)
theorem drawn_ok {σ : St} (ok : σ.Ok) (s : Int) : (drawnS σ s).2.Ok := by
  refine cd_ok (fun hs => cd_ok (fun _ => ok) (fun _ => ?_)) (fun _ => ok)
  obtain ⟨k, rfl, hk⟩ := isSh_n hs
  rw [Int.toNat_natCast]
  exact dr_ok hk _ _ _ ok
theorem dw_c (d : Nat) {k : Nat} (hk : k < 4) {m : Int} {z : Nat} (hz : z ≤ 64) : ∀ (n i : Nat) (x : Int) (σ : St) (μ : amM), i + n = z → σ.ss k = z → σ.t.M = m → 0 ≤ x ∧ x < 81 → σ.sb k ≠ 0 → σ.Ok → CI σ μ → ∃ μ', At cr2 (d + 5) 119 4 [] [0, 0, ((63 + 2 * k : Nat) : Int), m, x, (i : Int)] μ = some ((z : Int), μ') ∧ CI (dr n σ k i x) μ' ∧ same FC μ μ'
  | 0, i, x, σ, μ, hi, hz', hm, hx, hb, ok, h => by
    have hp := h.2.2.2.2.1 k hk
    rw [B119_4, shS hk, hp.2.1, if_neg (by omega), B119_7, shS hk, hp.2.1, hz']
    exact ⟨μ, rfl, h, same.rf⟩
  | n + 1, i, x, σ, μ, hi, hz', hm, hx, hb, ok, h => by
    have hp := h.2.2.2.2.1 k hk
    have ho := ok.2.2.1 k hk
    obtain ⟨c1, c2, c3⟩ := draw_c (d + 4) h
    have mp := M_pos ok.t
    have hr := dh_R ok i hx
    have d1 := dv_R (drw σ.k.z)
    have hp2 := c2.2.2.2.2.1 k hk
    have hb3 : up μ 1 8 (drw σ.k.z) (63 + 2 * k) 1 = 8 ∨ up μ 1 8 (drw σ.k.z) (63 + 2 * k) 1 = 16 ∨ up μ 1 8 (drw σ.k.z) (63 + 2 * k) 1 = 32 := by
      rw [hp2.1]
      rcases ho.1 with q | q
      · exact absurd q hb
      · exact q
    have hd : CI (σ.ds k i x) (up (up μ 1 8 (drw σ.k.z)) (64 + 2 * k) i (σ.dh i x)) := by
      refine c2.setK hk (up_sK same.rf _ _) ?_ ?_ (fun j hj => ?_)
      · rw [up_ne _ _ _ _ (Or.inl (by omega))]; exact hp2.1
      · rw [up_ne _ _ _ _ (Or.inl (by omega))]; exact hp2.2.1
      · rw [up_if]
        unfold fset
        by_cases e : j = i
        · rw [if_pos e, if_pos e]
        · rw [if_neg e, if_neg e]; exact hp2.2.2 j hj
    obtain ⟨μ', g1, g2, g3⟩ := dw_c d hk hz n (i + 1) (σ.dh i x) (σ.ds k i x) _ (by omega) ((nset_eq _ _ _).trans hz') hm ⟨hr.1, by omega⟩ (by
      show nset σ.sb k (σ.sb k) k ≠ 0
      rw [nset_eq]; exact hb) (ds_ok ok hk i x) hd
    refine ⟨μ', ?_, g2, c3.tn ((up_sF hk same.rf _ _).tn g3)⟩
    have e6 : At cr2 (d + 5) 119 6 [σ.dh i x] [0, 0, ((63 + 2 * k : Nat) : Int), m, 0, (i : Int)] (up μ 1 8 (drw σ.k.z)) = some ((z : Int), μ') := by
      rw [B119_6, if_pos (shT hk), shSet_e _ hk (by omega) (by omega) hb3 (show i32 (σ.dh i x) from ⟨by omega, by omega⟩), bnd_s, Int.toNat_natCast, trn_s hr, w32_i (by omega) (by omega)]
      exact g1
    rw [B119_4, shS hk, hp.2.1, if_pos (by omega)]
    by_cases q : i = 0
    · rw [if_pos (by omega), c1, bnd_s]
      rw [show σ.dh i x = (dv (drw σ.k.z)).tmod 81 from if_pos q] at e6
      exact e6
    · have m0 : 0 ≤ (dv (drw σ.k.z)).tmod m ∧ (dv (drw σ.k.z)).tmod m < 2147483648 := by
        rw [Int.tmod_eq_emod_of_nonneg d1.1]
        have m1 := Int.emod_nonneg (dv (drw σ.k.z)) (show m ≠ 0 by omega)
        have m2 := Int.emod_lt_of_pos (dv (drw σ.k.z)) (show 0 < m by omega)
        omega
      rw [if_neg (by omega), B119_5, c1, bnd_s, if_neg (by omega), goerAt_e _ c2.tc hx m0.1 m0.2, bnd_s]
      rw [show σ.dh i x = sel (fun y => σ.t.go (hc x) (hc y)) 0 81 0 ((dv (drw σ.k.z)).tmod σ.t.M) from if_neg q, hm] at e6
      exact e6
theorem drawn_c (d : Nat) {σ : St} {μ : amM} (ok : σ.Ok) (h : CI σ μ) (s : Int) : OC μ (RD cr2 (d + 20) 119 [0, s] μ) (drawnS σ s) := by
  have mp := M_pos ok.t
  unfold drawnS
  rw [M119, isSheet_e, bnd_s, ifb]
  refine OC.cd (fun hs => ?_) (fun _ => (OC.no _ h (by decide) (by decide)).bi (fun _ _ => rfl))
  obtain ⟨k, rfl, hk⟩ := isSh_n hs
  have hp := h.2.2.2.2.1 k hk
  have ho := ok.2.2.1 k hk
  rw [B119_1, shQ hk, howManyGo_e _ h.tc, bnd_s, if_pos (shT hk), shMiss_e _ hk, bnd_s, hp.1, Int.toNat_natCast]
  cases q : (σ.sb k == 0) with
  | true =>
    rw [if_neg (by decide), B119_2, cond_true]
    exact (OC.no _ h (by decide) (by decide)).bi (fun _ _ => rfl)
  | false =>
    rw [if_pos (by rfl), show ((cntB (fun x => σ.t.go (hc 0) (hc x)) 81 : Nat) : Int) = σ.t.M from rfl, if_neg (by omega), cond_false, B119_3]
    obtain ⟨μ', g1, g2, g3⟩ := dw_c (d + 14) hk (m := σ.t.M) ho.2 (σ.ss k) 0 0 σ μ (by omega) rfl rfl (by decide) (fun e => by rw [e] at q; cases q) ok h
    exact ⟨μ', g1, g2, g3⟩
