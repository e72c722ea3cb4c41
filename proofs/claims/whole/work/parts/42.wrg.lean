/-! ===== the wrong pairs ===== -/
def S8 (c _ : Nat) : Bool := Nat.beq c 8
def Tn.wl (t : Tn) : List (Nat × Nat) := t.prs.filter (fun p => t.wrong p.1 p.2)
def Tn.wlAt (t : Tn) (lot i : Nat) : List (Nat × Nat) := (((t.nb lot).drop i).filter (fun o => decide (lot < o) && t.wrong lot o)).map (fun o => (lot, o))
theorem Tn.Ok.wl {t : Tn} (ok : t.Ok) : t.wl = (List.range t.lots).flatMap (fun lot => t.wlAt lot 0) := by
  unfold Tn.wl
  rw [ok.ord, List.filter_flatMap]
  congr 1
  funext lot
  unfold Tn.wlAt
  rw [List.filter_map, List.filter_filter, List.drop_zero]
  congr 1
  congr 1
  funext o
  rw [Bool.and_comm]
  rfl
theorem Tn.Ok.wl_le {t : Tn} (ok : t.Ok) : t.wl.length ≤ 128 := Nat.le_trans (List.length_filter_le _ _) ok.prs
def PL (c : Nat) (l : List (Nat × Nat)) (μ : amM) : Prop := ∀ i, i < l.length → μ c i = 64 * ((l.getD i (0, 0)).1 : Int) + ((l.getD i (0, 0)).2 : Int)
theorem TC.S8 {t : Tn} {μ μ' : amM} (h : TC 2 t μ) (hs : same S8 μ μ') : TC 2 t μ' := h.keep hs (fun _ _ _ => rfl) (fun _ => rfl) (fun _ => rfl) (fun _ => rfl) (fun _ => rfl) (fun _ => rfl)
theorem lw_in (d : Nat) {t : Tn} (ok : t.Ok) {lot : Nat} (hl : lot < t.lots) : ∀ (n i : Nat) (l : List (Nat × Nat)) (μ : amM), i + n = (t.nb lot).length → TC 2 t μ → PL 8 l μ → (l ++ t.wlAt lot i).length ≤ 128 → ∃ μ', At cr2 (d + 4) 79 2 [] [2, (l.length : Int), (lot : Int), (i : Int), 0] μ = At cr2 (d + 4) 79 1 [] [2, ((l ++ t.wlAt lot i).length : Int), ((lot + 1 : Nat) : Int), 0, 0] μ' ∧ PL 8 (l ++ t.wlAt lot i) μ' ∧ same S8 μ μ'
  | 0, i, l, μ, hi, h, hp, hb => by
    have h64 := ok.le.2
    have e : t.wlAt lot i = [] := by
      unfold Tn.wlAt
      rw [List.drop_eq_nil_of_le (by omega)]; rfl
    rw [e, List.append_nil, B79_2, rd_p (by omega) (by omega), Int.toNat_natCast, (h.2.2 lot hl).1, if_neg (by omega), B79_4, w32_i (by omega) (by omega)]
    exact ⟨μ, rfl, hp, same.rf⟩
  | n + 1, i, l, μ, hi, h, hp, hb => by
    have h64 := ok.le.2
    have hn := ok.nbs hl
    have hil : i < (t.nb lot).length := by omega
    have ho := hn.2 _ (getD_mem 0 hil)
    have e : t.wlAt lot i = (if decide (lot < (t.nb lot).getD i 0) && t.wrong lot ((t.nb lot).getD i 0) then [(lot, (t.nb lot).getD i 0)] else []) ++ t.wlAt lot (i + 1) := by
      unfold Tn.wlAt
      rw [drop_getD 0 hil, List.filter_cons]
      cases decide (lot < (t.nb lot).getD i 0) && t.wrong lot ((t.nb lot).getD i 0) <;> rfl
    rw [e] at hb ⊢
    rw [B79_2, rd_p (by omega) (by omega), Int.toNat_natCast, (h.2.2 lot hl).1, if_pos (by omega), w32_i (x := (lot : Int) * 4) (by omega) (by omega), w32_i (x := (lot : Int) * 4 + i) (by omega) (by omega), rd_p (by omega) (by omega), show ((lot : Int) * 4 + i).toNat = 4 * lot + i by omega, (h.2.2 lot hl).2 i hil]
    have skip : ∃ μ', At cr2 (d + 4) 79 3 [] [2, (l.length : Int), (lot : Int), (i : Int), 0] μ = At cr2 (d + 4) 79 1 [] [2, ((l ++ t.wlAt lot (i + 1)).length : Int), ((lot + 1 : Nat) : Int), 0, 0] μ' ∧ PL 8 (l ++ t.wlAt lot (i + 1)) μ' ∧ same S8 μ μ' := by
      rw [B79_3, w32_i (by omega) (by omega)]
      refine lw_in d ok hl n (i + 1) l μ (by omega) h hp ?_
      rw [List.length_append] at hb ⊢
      rw [List.length_append] at hb
      omega
    by_cases q1 : lot < (t.nb lot).getD i 0
    · rw [if_pos (show (lot : Int) < (((t.nb lot).getD i 0 : Nat) : Int) by omega), decide_eq_true q1, Bool.true_and]
      cases q2 : t.wrong lot ((t.nb lot).getD i 0) with
      | true =>
        rw [decide_eq_true q1, q2] at hb
        have hlen : l.length < 128 := by
          rw [List.length_append, List.length_append] at hb
          have : ([(lot, (t.nb lot).getD i 0)] : List (Nat × Nat)).length = 1 := rfl
          simp only [Bool.and_self, if_true] at hb
          omega
        rw [if_pos (by omega), isWrong_e d ok h hl ho.1, bnd_s, q2, if_neg (show ¬ bi true = 0 from by decide), wr_p (by omega) (by omega), w32_i (x := 64 * (lot : Int)) (by omega) (by omega), w32_i (x := 64 * (lot : Int) + _) (by omega) (by omega), Int.toNat_natCast, w32_i (x := (l.length : Int) + 1) (by omega) (by omega), B79_3, w32_i (x := (i : Int) + 1) (by omega) (by omega)]
        have hs : same S8 μ (up μ 8 l.length (64 * (lot : Int) + ((t.nb lot).getD i 0 : Nat))) := same.rf.up rfl
        have hp2 : PL 8 (l ++ [(lot, (t.nb lot).getD i 0)]) (up μ 8 l.length (64 * (lot : Int) + ((t.nb lot).getD i 0 : Nat))) := by
          intro j hj
          rw [List.length_append] at hj
          have hj : j < l.length + 1 := hj
          rw [up_if]
          by_cases e : j = l.length
          · rw [if_pos e, e, getD_app_r]
          · rw [if_neg e, getD_app_l (by omega)]
            exact hp j (by omega)
        obtain ⟨μ', g1, g2, g3⟩ := lw_in d ok hl n (i + 1) (l ++ [(lot, (t.nb lot).getD i 0)]) _ (by omega) (h.S8 hs) hp2 (by rw [List.append_assoc]; exact hb)
        rw [List.append_assoc] at g1 g2
        refine ⟨μ', ?_, g2, hs.tr g3⟩
        rw [List.length_append] at g1
        exact g1
      | false =>
        rw [decide_eq_true q1, q2] at hb
        by_cases q3 : (l.length : Int) < 128
        · rw [if_pos q3, isWrong_e d ok h hl ho.1, bnd_s, q2, if_pos (show bi false = 0 from rfl)]
          exact skip
        · rw [if_neg q3]
          exact skip
    · rw [if_neg (show ¬ (lot : Int) < (((t.nb lot).getD i 0 : Nat) : Int) by omega), decide_eq_false q1, Bool.false_and]
      exact skip
theorem lw_out (d : Nat) {t : Tn} (ok : t.Ok) : ∀ (n lot : Nat) (μ : amM), lot + n = t.lots → TC 2 t μ → PL 8 ((List.range lot).flatMap (fun lot => t.wlAt lot 0)) μ → ∃ μ', At cr2 (d + 4) 79 1 [] [2, (((List.range lot).flatMap (fun lot => t.wlAt lot 0)).length : Int), (lot : Int), 0, 0] μ = some ((t.wl.length : Int), μ') ∧ PL 8 t.wl μ' ∧ same S8 μ μ'
  | 0, lot, μ, hn, h, hp => by
    have hn : lot = t.lots := by omega
    subst hn
    rw [← ok.wl] at hp ⊢
    rw [B79_1, h.1.2.2.2.1, if_neg (by omega), B79_5]
    exact ⟨μ, rfl, hp, same.rf⟩
  | n + 1, lot, μ, hn, h, hp => by
    have hlen : ((List.range lot).flatMap (fun lot => t.wlAt lot 0) ++ t.wlAt lot 0).length ≤ 128 := by
      rw [← flat_succ]
      refine Nat.le_trans (flat_len _ (show lot + 1 ≤ t.lots by omega)) ?_
      rw [← ok.wl]
      exact ok.wl_le
    obtain ⟨μ1, h1, h2, h3⟩ := lw_in d ok (show lot < t.lots by omega) _ 0 _ μ (Nat.zero_add _) h hp hlen
    rw [← flat_succ (fun lot => t.wlAt lot 0)] at h1 h2
    obtain ⟨μ2, g1, g2, g3⟩ := lw_out d ok n (lot + 1) μ1 (by omega) (h.S8 h3) h2
    refine ⟨μ2, ?_, g2, h3.tr g3⟩
    rw [B79_1, h.1.2.2.2.1, if_pos (by omega)]
    exact h1.trans g1
theorem listWrong_e (d : Nat) {t : Tn} {μ : amM} (ok : t.Ok) (h : TC 2 t μ) : ∃ μ', RD cr2 (d + 5) 79 [2] μ = some ((t.wl.length : Int), μ') ∧ PL 8 t.wl μ' ∧ same S8 μ μ' := by
  obtain ⟨μ', g1, g2, g3⟩ := lw_out d ok t.lots 0 μ (Nat.zero_add _) h (fun i hi => absurd hi (Nat.not_lt_zero i))
  refine ⟨μ', ?_, g2, g3⟩
  rw [M79]
  exact g1
/-- the first place in a list that a test takes -/
def ixf {α : Type} (P : α → Bool) : List α → Nat → Int
  | [], _ => -1
  | a :: l, i => if P a then (i : Int) else ixf P l (i + 1)
def S71w (c i : Nat) : Bool := Nat.beq c 71 && (Nat.beq i 14 || Nat.beq i 15)
def FW (t : Tn) (μ : amM) : Prop := μ 71 14 = (t.wl.length : Int) ∧ μ 71 15 = ixf (fun p => t.wrong p.1 p.2) t.prs 0
theorem PF.keep {l : List (Nat × Nat)} {μ μ' : amM} {S : Nat → Nat → Bool} (h : PF l μ) (hs : same S μ μ') (h0 : S 71 13 = false) (h1 : ∀ i, S 76 i = false) (h2 : ∀ i, S 77 i = false) : PF l μ' := by
  refine ⟨(hs _ _ h0).trans h.1, fun i hi => ?_⟩
  rw [hs _ _ (h1 _), hs _ _ (h2 _)]
  exact h.2 i hi
theorem fw_loop (d : Nat) {t : Tn} (ok : t.Ok) : ∀ (i : Nat) (μ : amM), i ≤ t.prs.length → TM 72 t μ → PF t.prs μ → μ 71 14 = (((t.prs.drop i).filter (fun p => t.wrong p.1 p.2)).length : Int) → μ 71 15 = ixf (fun p => t.wrong p.1 p.2) (t.prs.drop i) i → ∃ μ', At cr2 (d + 3) 180 1 [] [71, (i : Int) - 1] μ = some (0, μ') ∧ FW t μ' ∧ same S71w μ μ'
  | 0, μ, hi, h, hp, h1, h2 => by
    rw [B180_1, if_pos (by omega), B180_3]
    exact ⟨μ, rfl, ⟨h1, h2⟩, same.rf⟩
  | i + 1, μ, hi, h, hp, h1, h2 => by
    have h128 := ok.prs
    have hil : i < t.prs.length := by omega
    have e : ((i + 1 : Nat) : Int) - 1 = (i : Int) := by omega
    have hf := List.length_filter_le (fun p => t.wrong p.1 p.2) (t.prs.drop (i + 1))
    rw [List.length_drop] at hf
    rw [e, B180_1, if_neg (by omega), mPairWrong_e d ok h hp hil, bnd_s]
    cases hb : t.wrong (t.prs.getD i (0, 0)).1 (t.prs.getD i (0, 0)).2 with
    | false =>
      rw [if_pos (show bi false = 0 from rfl), B180_2, w32_i (by omega) (by omega)]
      refine fw_loop d ok i μ (by omega) h hp ?_ ?_
      · rw [drop_getD (0, 0) hil, List.filter_cons_of_neg (by rw [hb]; decide)]; exact h1
      · rw [drop_getD (0, 0) hil]; unfold ixf; rw [hb]; exact h2
    | true =>
      rw [if_neg (show ¬ bi true = 0 from by decide), wf_e, wf_e, h1, w32_i (by omega) (by omega), B180_2, w32_i (by omega) (by omega)]
      have hs : same S71w μ (up (up μ 71 14 ((((t.prs.drop (i + 1)).filter (fun p => t.wrong p.1 p.2)).length : Int) + 1)) 71 15 (i : Int)) := (same.rf.up rfl).up rfl
      obtain ⟨μ', g1, g2, g3⟩ := fw_loop d ok i _ (by omega) (h.keep hs (fun _ => rfl)) (hp.keep hs rfl (fun _ => rfl) (fun _ => rfl)) (by
        rw [drop_getD (0, 0) hil, List.filter_cons_of_pos (p := fun p : Nat × Nat => t.wrong p.1 p.2) hb]; rfl) (by
        rw [drop_getD (0, 0) hil]; unfold ixf; rw [hb]; rfl)
      exact ⟨μ', g1, g2, hs.tr g3⟩
theorem findWrong_e (d : Nat) {t : Tn} {μ : amM} (ok : t.Ok) (h : TM 72 t μ) (hp : PF t.prs μ) : ∃ μ', RD cr2 (d + 4) 180 [71] μ = some (0, μ') ∧ FW t μ' ∧ same S71w μ μ' := by
  have h128 := ok.prs
  have hs : same S71w μ (up (up μ 71 14 0) 71 15 (-1)) := (same.rf.up rfl).up rfl
  obtain ⟨μ', g1, g2, g3⟩ := fw_loop d ok t.prs.length _ (Nat.le_refl _) (h.keep hs (fun _ => rfl)) (hp.keep hs rfl (fun _ => rfl) (fun _ => rfl)) (by rw [List.drop_length]; rfl) (by rw [List.drop_length]; rfl)
  refine ⟨μ', ?_, g2, hs.tr g3⟩
  rw [M180]
  show At cr2 (d + 3) 180 1 [] [71, w32 (μ 71 13 - 1)] _ = _
  rw [hp.1, w32_i (by omega) (by omega)]
  exact g1
theorem isAllRight_e (d : Nat) {t : Tn} {μ : amM} (ok : t.Ok) (h : TM 72 t μ) (hp : PF t.prs μ) : ∃ μ', RD cr2 (d + 5) 181 [71] μ = some (bi (t.wl.length == 0), μ') ∧ FW t μ' ∧ same S71w μ μ' := by
  obtain ⟨μ', g1, g2, g3⟩ := findWrong_e d ok h hp
  refine ⟨μ', ?_, g2, g3⟩
  rw [M181, g1, bnd_s, g2.1]
  by_cases q : t.wl.length = 0
  · rw [if_pos (by omega), B181_2, q]; rfl
  · rw [if_neg (by omega), B181_1, B181_2, beq_false_of_ne q]; rfl
theorem S8_Sc {μ μ' : amM} (h : same S8 μ μ') : same (or2 g0 ScC) μ μ' := by
  refine h.wide (fun c i q => ?_)
  have q := or2_r q
  cases e : S8 c i with
  | false => rfl
  | true => rw [Nat.eq_of_beq_eq_true e] at q; cases q
theorem S8_F {μ μ' : amM} (h : same S8 μ μ') : same FC μ μ' := by
  refine h.wide (fun c i q => ?_)
  cases e : S8 c i with
  | false => rfl
  | true => rw [Nat.eq_of_beq_eq_true e] at q; cases q
theorem S71w_Sc {μ μ' : amM} (h : same S71w μ μ') : same (or2 h0 ScM) μ μ' := by
  refine h.wide (fun c i q => ?_)
  have q := or2_r q
  cases e : S71w c i with
  | false => rfl
  | true =>
    unfold S71w at e
    rw [Bool.and_eq_true, Bool.or_eq_true] at e
    rcases e with ⟨e, e2 | e2⟩
    · rw [Nat.eq_of_beq_eq_true e, Nat.eq_of_beq_eq_true e2] at q; cases q
    · rw [Nat.eq_of_beq_eq_true e, Nat.eq_of_beq_eq_true e2] at q; cases q
theorem S71w_F {μ μ' : amM} (h : same S71w μ μ') : same FM μ μ' := by
  refine h.wide (fun c i q => ?_)
  cases e : S71w c i with
  | false => rfl
  | true =>
    unfold S71w at e
    rw [Bool.and_eq_true, Bool.or_eq_true] at e
    rcases e with ⟨e, e2 | e2⟩
    · rw [Nat.eq_of_beq_eq_true e, Nat.eq_of_beq_eq_true e2] at q; cases q
    · rw [Nat.eq_of_beq_eq_true e, Nat.eq_of_beq_eq_true e2] at q; cases q
def wrongS (σ : St) (x : Int) : Int × St := if x < -1 then σ.no 1 else if x = -1 then ((σ.t.wl.length : Int), σ) else if x < (σ.t.wl.length : Int) then (64 * ((σ.t.wl.getD x.toNat (0, 0)).1 : Int) + ((σ.t.wl.getD x.toNat (0, 0)).2 : Int), σ) else σ.no 2
theorem wrong_ok {σ : St} (ok : σ.Ok) (x : Int) : (wrongS σ x).2.Ok := if_ok (fun _ => ok) (fun _ => if_ok (fun _ => ok) (fun _ => if_ok (fun _ => ok) (fun _ => ok)))
theorem OC.bs {μ : amM} {r : amR} {f : Int → amM → amR} {s : Int × St} {v : Int} {μ1 : amM} (h : r = some (v, μ1)) (h2 : OC μ (f v μ1) s) : OC μ (bnd r f) s := by
  rw [h]
  exact h2
theorem wrong_c (d : Nat) {σ : St} {μ : amM} (ok : σ.Ok) (h : CI σ μ) (x : Int) : OC μ (RD cr2 (d + 20) 109 [0, x] μ) (wrongS σ x) := by
  unfold wrongS
  rw [M109]
  by_cases q1 : x < -1
  · rw [if_pos q1, if_pos q1]
    exact (OC.no _ h (by decide) (by decide)).bi (fun _ _ => rfl)
  · obtain ⟨μ1, g1, g2, g3⟩ := listWrong_e (d + 14) ok.t h.tc
    have hc := h.set0 (S8_Sc g3)
    have h128 := ok.t.wl_le
    rw [if_neg q1, if_neg q1, B109_1]
    refine OC.bs g1 (OC.tr ?_ (S8_F g3))
    by_cases q2 : x = -1
    · rw [if_pos q2, if_pos q2]
      exact OC.rt hc
    · rw [if_neg q2, if_neg q2, B109_2]
      by_cases q3 : x < (σ.t.wl.length : Int)
      · rw [if_pos q3, if_pos q3, rd_p (by omega) (by omega), B109_4, g2 x.toNat (by omega)]
        exact OC.rt hc
      · rw [if_neg q3, if_neg q3, B109_3]
        exact (OC.no _ hc (by decide) (by decide)).bi (fun _ _ => by rw [B109_4])
theorem wrong_mloop (d : Nat) {σ : St} {μ : amM} (ok : σ.Ok) (h : MI σ μ) (hp : PF σ.t.prs μ) (x : Nat) : ∀ (n i k : Nat), i + n = σ.t.prs.length → k ≤ x → k ≤ i → OM μ (At cr2 (d + 19) 205 3 [] [71, (x : Int), (k : Int), (i : Int)] μ) (if x - k < ((σ.t.prs.drop i).filter (fun p => σ.t.wrong p.1 p.2)).length then (64 * ((((σ.t.prs.drop i).filter (fun p => σ.t.wrong p.1 p.2)).getD (x - k) (0, 0)).1 : Int) + ((((σ.t.prs.drop i).filter (fun p => σ.t.wrong p.1 p.2)).getD (x - k) (0, 0)).2 : Int), σ) else σ.no 2)
  | 0, i, k, hi, hk, hki => by
    have h128 := ok.t.prs
    rw [B205_3, hp.1, if_neg (by omega), B205_6, List.drop_eq_nil_of_le (by omega)]
    exact (OM.no _ ok h (by decide) (by decide)).bi (fun _ _ => rfl)
  | n + 1, i, k, hi, hk, hki => by
    have h128 := ok.t.prs
    have h64 := ok.t.le.2
    have hil : i < σ.t.prs.length := by omega
    have hlt := ok.t.prs_lt _ (getD_mem (0, 0) hil)
    obtain ⟨e1, e2⟩ := hp.at hil
    rw [B205_3, hp.1, if_pos (by omega), mPairWrong_e _ ok.t h.tm hp hil, bnd_s, drop_getD (0, 0) hil]
    cases hb : σ.t.wrong (σ.t.prs.getD i (0, 0)).1 (σ.t.prs.getD i (0, 0)).2 with
    | false =>
      rw [if_pos (show bi false = 0 from rfl), B205_5, w32_i (by omega) (by omega), List.filter_cons_of_neg (by rw [hb]; decide)]
      exact wrong_mloop d ok h hp x n (i + 1) k (by omega) hk (by omega)
    | true =>
      rw [if_neg (show ¬ bi true = 0 from by decide), List.filter_cons_of_pos (p := fun p : Nat × Nat => σ.t.wrong p.1 p.2) hb]
      by_cases q : k = x
      · rw [if_pos (by omega), rd_p (by omega) (by omega), rd_p (by omega) (by omega), Int.toNat_natCast, e1, e2, w32_i (x := 64 * _) (by omega) (by omega), w32_i (by omega) (by omega), show x - k = 0 by omega, if_pos (by rw [List.length_cons]; omega)]
        exact OM.rt h
      · have ih := wrong_mloop d ok h hp x n (i + 1) (k + 1) (by omega) (by omega) (by omega)
        rw [if_neg (by omega), B205_4, B205_5, w32_i (x := (k : Int) + 1) (by omega) (by omega), w32_i (x := (i : Int) + 1) (by omega) (by omega), List.length_cons]
        rw [show x - k = (x - (k + 1)) + 1 by omega, List.getD_cons_succ]
        by_cases q3 : x - (k + 1) < ((σ.t.prs.drop (i + 1)).filter (fun p => σ.t.wrong p.1 p.2)).length
        · rw [if_pos q3] at ih
          rw [if_pos (by omega)]
          exact ih
        · rw [if_neg q3] at ih
          rw [if_neg (by omega)]
          exact ih
theorem wrong_m (d : Nat) {σ : St} {μ : amM} (ok : σ.Ok) (h : MI σ μ) (x : Int) : OM μ (RD cr2 (d + 20) 205 [71, x] μ) (wrongS σ x) := by
  unfold wrongS
  rw [M205]
  by_cases q1 : x < -1
  · rw [if_pos q1, if_pos q1]
    exact (OM.no _ ok h (by decide) (by decide)).bi (fun _ _ => rfl)
  · obtain ⟨μ1, g1, g2, g3⟩ := findPairs_e (d + 17) ok.t h.tm
    have hm := h.set0 ok (SP_Sc g3)
    obtain ⟨μ2, f1, f2, f3⟩ := findWrong_e (d + 15) ok.t hm.tm g2
    have hm2 := hm.set0 ok (S71w_Sc f3)
    have g2' := g2.keep f3 rfl (fun _ => rfl) (fun _ => rfl)
    rw [if_neg q1, if_neg q1, B205_1]
    refine OM.bs g1 (OM.bs f1 (OM.tr ?_ ((SP_F g3).tr (S71w_F f3))))
    by_cases q2 : x = -1
    · rw [if_pos (by omega), if_pos q2, f2.1]
      exact OM.rt hm2
    · obtain ⟨n, rfl⟩ := Int.eq_ofNat_of_zero_le (show 0 ≤ x by omega)
      have e := wrong_mloop d ok hm2 g2' n σ.t.prs.length 0 0 (Nat.zero_add _) (Nat.zero_le _) (Nat.zero_le _)
      rw [if_neg (by omega), if_neg q2, B205_2, Int.toNat_natCast]
      rw [List.drop_zero] at e
      by_cases q3 : n < σ.t.wl.length
      · rw [if_pos (show n - 0 < (σ.t.prs.filter (fun p => σ.t.wrong p.1 p.2)).length from q3)] at e
        rw [if_pos (by omega)]
        exact e
      · rw [if_neg (show ¬ n - 0 < (σ.t.prs.filter (fun p => σ.t.wrong p.1 p.2)).length from q3)] at e
        rw [if_neg (by omega)]
        exact e
