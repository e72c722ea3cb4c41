/-! ===== lots filled anew, by the reference ===== -/
def S889 (c _ : Nat) : Bool := Nat.beq c 88 || Nat.beq c 89
theorem S889_T {μ μ' : amM} (h : same S889 μ μ') : same (or2 hT ScM) μ μ' := h.wide (fun c i q => by
  cases e : S889 c i with
  | false => rfl
  | true =>
    unfold S889 at e
    rw [Bool.or_eq_true] at e
    rcases e with e | e <;> (rw [Nat.eq_of_beq_eq_true e] at q; cases q))
theorem S889_F {μ μ' : amM} (h : same S889 μ μ') : same FM μ μ' := h.wide (fun c i q => by
  cases e : S889 c i with
  | false => rfl
  | true =>
    unfold S889 at e
    rw [Bool.or_eq_true] at e
    rcases e with e | e <;> (rw [Nat.eq_of_beq_eq_true e] at q; cases q))
theorem SP_T {μ μ' : amM} (h : same SP μ μ') : same (or2 hT ScM) μ μ' := (SP_Sc h).wide (fun c i q => by
  unfold or2 at q ⊢
  rw [Bool.or_eq_false_iff] at q
  rw [q.2]; rfl)
theorem put_hole {t : Tn} {lot : Nat} (h : t.kind lot = -1) (m c : Int) : (t.put lot (-1) m c).eqv t := by
  refine ⟨⟨rfl, rfl, rfl, rfl, rfl⟩, fun l _ => ?_⟩
  by_cases e : l = lot
  · rw [e, put_kind_eq, h]
    exact ⟨rfl, fun w => absurd rfl w⟩
  · rw [put_kind_ne _ _ _ _ e, put_m_ne _ _ _ _ e, put_code_ne _ _ _ _ e]
    exact ⟨rfl, fun _ => ⟨rfl, rfl⟩⟩
theorem list_m (d : Nat) {t : Tn} (ok : t.Ok) : ∀ (n l : Nat) (μ : amM), l + n = t.lots → TM 72 t μ → LSt 88 (t.Ep l) μ → ∃ μ', At cr2 (d + 1) 235 1 [] [71, ((t.Ep l).length : Nat), (l : Int), 0, 0] μ = At cr2 (d + 1) 235 3 [] [71, (t.ne : Int), 0, 0, 0] μ' ∧ TM 72 t μ' ∧ LSt 88 t.E μ' ∧ same S889 μ μ'
  | 0, l, μ, hl, h, hs => by
    rw [B235_1, mLots_e _ ok h, bnd_s, if_neg (by omega)]
    rw [show l = t.lots by omega] at hs ⊢
    exact ⟨μ, rfl, h, hs, same.rf⟩
  | n + 1, l, μ, hl, h, hs => by
    have h64 := ok.le.2
    have hlen : (t.Ep l).length ≤ l := by
      have := List.length_filter_le (fun l => t.kind l == -1) (List.range l)
      rw [List.length_range] at this
      exact this
    rw [B235_1, mLots_e _ ok h, bnd_s, if_pos (by omega), mEmpty_e _ ok h (show l < t.lots by omega), bnd_s]
    have ep := Ep_succ t l
    by_cases q : t.kind l = -1
    · rw [if_pos q] at ep
      have s1 : same S889 μ (up μ 88 (t.Ep l).length (l : Int)) := same.rf.up rfl
      have h1 : TM 72 t (up μ 88 (t.Ep l).length (l : Int)) := h.keep2 ok s1 (fun _ _ => rfl) (fun _ _ _ => rfl)
      obtain ⟨μ', g1, g2, g3, g4⟩ := list_m d ok n (l + 1) _ (by omega) h1 (by rw [ep]; exact hs.more l)
      refine ⟨μ', ?_, g2, g3, s1.tn g4⟩
      rw [q, if_neg (by decide), wr_p (by omega) (by omega), Int.toNat_natCast, B235_2, w32_i (by omega) (by omega), w32_i (by omega) (by omega)]
      rw [ep, List.length_append] at g1
      exact g1
    · rw [if_neg q] at ep
      rw [if_pos (by rw [beq_false_of_ne q]; rfl), B235_2, w32_i (by omega) (by omega)]
      obtain ⟨μ', g1, g2, g3, g4⟩ := list_m d ok n (l + 1) μ (by omega) h (by rw [ep]; exact hs)
      rw [ep] at g1
      exact ⟨μ', g1, g2, g3, g4⟩
theorem none_m (d : Nat) {t : Tn} (ok : t.Ok) {T : Tn} (okT : T.Ok) (hTl : T.lots = t.lots) (x2 : Int) : ∀ (n i : Nat) (μ : amM), i + n = t.ne → TM 72 (t.em T i) μ → LSt 88 t.E μ → ∃ μ', At cr2 (d + 2) 235 9 [] [71, (t.ne : Int), x2, 0, (i : Int)] μ = At cr2 (d + 2) 235 10 [] [71, 0, x2, 0, 0] μ' ∧ TM 72 (t.em T t.ne) μ' ∧ same (or2 hT ScM) μ μ' ∧ same FM μ μ'
  | 0, i, μ, hi, h, hs => by
    rw [B235_9, if_neg (by omega)]
    rw [show i = t.ne by omega] at h
    exact ⟨μ, rfl, h, same.rf, same.rf⟩
  | n + 1, i, μ, hi, h, hs => by
    have h64 := ne_le ok
    have hl := ok.le.2
    have he := e_lt (t := t) (i := i) (by omega)
    obtain ⟨μ1, a1, a2, a3⟩ := empties_e d (em_ok okT i) h (lot := t.e i) (by rw [em_lots, hTl]; exact he.1) 0 0
    obtain ⟨μ', g1, g2, g3, g4⟩ := none_m d ok okT hTl x2 n (i + 1) μ1 (by omega) a2 (fun k hk => (a3 _ _ (SM_o (by decide))).trans (hs k hk))
    refine ⟨μ', ?_, g2, (SM_T (by omega) a3).tn g3, (SM_F a3).tn g4⟩
    rw [B235_9, if_pos (by omega), rd_p (by omega) (by omega), Int.toNat_natCast, hs i (show i < t.E.length from by
      show i < t.ne
      omega), show t.E.getD i 0 = t.e i from rfl, a1, bnd_s, w32_i (by omega) (by omega)]
    exact g1
def XM (t : Tn) (p : Nat) (nx : Nat → Nat) (μ : amM) : Prop := (TM 72 (t.ft nx p) μ ∨ (p < t.ne ∧ 1 ≤ nx p ∧ TM 72 (t.ft nx (p + 1)) μ)) ∧ PF t.prs μ ∧ LSt 88 t.E μ ∧ ∀ i, i ≤ p → i < t.ne → μ 89 i = (nx i : Int) - 1
noncomputable def fin235 (d : Nat) (r : Nat) (ne : Nat) (μ : amM) : amR := if r = 0 then some ((ne : Int), μ) else At cr2 d 235 12 [(r : Int), 71] [0, 0, 0, 0, 0] μ
theorem out_m (d : Nat) {t : Tn} (ok : t.Ok) {nx : Nat → Nat} {p : Nat} (hp : p ≤ t.ne) (hx : ∀ j, j < p → 1 ≤ nx j ∧ nx j ≤ 81) {μ : amM} (h : TM 72 (t.ft nx p) μ) (hs : LSt 88 t.E μ) {x3 : Int} (hx3 : x3 ≠ (t.ne : Int)) {k : Nat} (hk : k ≤ 20001) : ∃ μ', At cr2 (d + 2) 235 7 [] [71, (t.ne : Int), (k : Int), x3, 0] μ = At cr2 (d + 2) 235 12 [((if 20000 < k then 4 else 2 : Nat) : Int), 71] [0, 0, 0, 0, 0] μ' ∧ TM 72 t μ' ∧ same (or2 hT ScM) μ μ' ∧ same FM μ μ' := by
  obtain ⟨μ', g1, g2, g3, g4⟩ := none_m d ok (ft_ok ok p hx) (ft_lots _ _ _) (k : Int) t.ne 0 μ (by omega) h hs
  refine ⟨μ', ?_, g2.eqv (em_eqv hp), g3, g4⟩
  rw [B235_7, if_neg hx3, B235_8]
  refine g1.trans ?_
  rw [B235_10]
  by_cases q : 20000 < k
  · rw [if_pos (by omega), if_pos q]; rfl
  · rw [if_neg (by omega), if_neg q, B235_11]; rfl
theorem fill_lm (d : Nat) {t : Tn} (ok : t.Ok) : ∀ (n p k : Nat) (nx : Nat → Nat) (μ : amM), NX p nx → p ≤ t.ne → 2 * (20000 - k) + p + 1 ≤ n → k ≤ 20000 → XM t p nx μ → ∃ μ', At cr2 (d + 5) 235 4 [] [71, (t.ne : Int), (k : Int), (p : Int), 0] μ = fin235 (d + 5) (t.fl n p k nx).1 t.ne μ' ∧ TM 72 (t.fe (t.fl n p k nx)) μ' ∧ same (or2 hT ScM) μ μ' ∧ same FM μ μ'
  | 0, _, _, _, _, _, _, h, _, _ => by omega
  | n + 1, p, k, nx, μ, hx, hp, hf, hk, h => by
    obtain ⟨h1, h2, h3, h4⟩ := h
    have h64 := ne_le ok
    have hl := ok.le.2
    have hft := ft_ok ok p hx.1
    unfold Tn.fl
    by_cases q : p = t.ne
    · rw [if_pos q, B235_4, if_neg (by omega), if_neg (by omega), B235_7, if_pos (by omega)]
      refine ⟨μ, rfl, ?_, same.rf, same.rf⟩
      rcases h1 with h1 | ⟨w, -⟩
      · rw [q] at h1
        exact h1
      · omega
    · have hpn : p < t.ne := by omega
      have he := e_lt hpn
      have hxp := hx.2
      have e88 : μ 88 p = (t.e p : Nat) := h3 p hpn
      have e89 := h4 p (Nat.le_refl _) hpn
      have emp : ∃ μ1, RD cr2 (d + 5) 183 [71, ((t.e p : Nat) : Int)] μ = some (0, μ1) ∧ TM 72 (t.ft nx p) μ1 ∧ same (SM (t.e p)) μ μ1 := by
        rcases h1 with h1 | ⟨-, w, h1⟩
        · obtain ⟨μ1, a1, a2, a3⟩ := empties_e (d + 3) hft h1 (lot := t.e p) (by rw [ft_lots]; exact he.1) 0 0
          exact ⟨μ1, a1, a2.eqv (put_hole (ft_hole hpn p (Nat.le_refl _)) _ _), a3⟩
        · obtain ⟨μ1, a1, a2, a3⟩ := empties_e (d + 3) (ft_ok ok (p + 1) (fun j hj => by
            by_cases e : j = p
            · rw [e]; omega
            · exact hx.1 j (by omega))) h1 (lot := t.e p) (by rw [ft_lots]; exact he.1) 0 0
          exact ⟨μ1, a1, a2.eqv (put_back (ft_hole hpn p (Nat.le_refl _)) _ _ _ _ _), a3⟩
      obtain ⟨μ1, a1, a2, a3⟩ := emp
      have m89 : μ1 89 p = (nx p : Int) - 1 := (a3 _ _ (SM_o (by decide))).trans e89
      have s2 : same S889 μ1 (up μ1 89 p (nx p : Int)) := same.rf.up rfl
      have hT2 : TM 72 (t.ft nx p) (up μ1 89 p (nx p : Int)) := a2.keep2 hft s2 (fun _ _ => rfl) (fun _ _ _ => rfl)
      have hP2 : PF t.prs (up μ1 89 p (nx p : Int)) := (h2.keep a3 (SM_o (by decide)) (fun _ => SM_o (by decide)) (fun _ => SM_o (by decide))).keep s2 rfl (fun _ => rfl) (fun _ => rfl)
      have hL2 : LSt 88 t.E (up μ1 89 p (nx p : Int)) := fun i hi => (up_ne _ _ _ _ (Or.inl (by decide))).trans ((a3 _ _ (SM_o (by decide))).trans (h3 i hi))
      have h89 : ∀ i, i ≤ p → i < t.ne → up μ1 89 p (nx p : Int) 89 i = ((nset nx p (nx p + 1) i : Nat) : Int) - 1 := fun i hi1 hi2 => by
        by_cases e : i = p
        · rw [e, up_eq, nset_eq]; omega
        · rw [up_ne _ _ _ _ (Or.inr e), nset_ne _ _ e]
          exact (a3 _ _ (SM_o (by decide))).trans (h4 i hi1 hi2)
      have sT : same (or2 hT ScM) μ (up μ1 89 p (nx p : Int)) := (SM_T (by omega) a3).tn (S889_T s2)
      have sF : same FM μ (up μ1 89 p (nx p : Int)) := (SM_F a3).tn (S889_F s2)
      rw [if_neg q, B235_4, if_neg (by omega), if_pos (by omega), if_neg (by omega), rd_p (by omega) (by omega), Int.toNat_natCast, e88, a1, bnd_s, rd_p (by omega) (by omega), Int.toNat_natCast, m89, wr_p (by omega) (by omega), Int.toNat_natCast, w32_i (by omega) (by omega), show (nx p : Int) - 1 + 1 = (nx p : Int) by omega, rd_p (by omega) (by omega), Int.toNat_natCast, up_eq]
      by_cases q1 : nx p < 81
      · rw [if_neg (by omega), if_pos q1, B235_5, w32_i (x := (k : Int) + 1) (by omega) (by omega)]
        by_cases q2 : k < 20000
        · rw [if_neg (by omega), if_pos q2, rd_p (by omega) (by omega), Int.toNat_natCast, up_eq, fits_e (d + 2) hft hT2 (by rw [ft_prs]; exact hP2) (lot := t.e p) (by rw [ft_lots]; exact he.1) (show 0 ≤ (nx p : Int) ∧ (nx p : Int) < 81 by omega), bnd_s]
          cases q3 : (t.ft nx p).may (t.e p) (hc (nx p : Int)) with
          | false =>
            obtain ⟨μ', g1, g2, g3, g4⟩ := fill_lm d ok n p (k + 1) (nset nx p (nx p + 1)) _ (hx.more q1) hp (by omega) (by omega) ⟨Or.inl (by rw [ft_more]; exact hT2), hP2, hL2, h89⟩
            rw [if_pos (by rfl), if_neg (by decide), B235_6]
            exact ⟨μ', g1, g2, sT.tn g3, sF.tn g4⟩
          | true =>
            obtain ⟨μ3, b1, b2, b3⟩ := stands_e (d + 3) hft hT2 (lot := t.e p) (by rw [ft_lots]; exact he.1) (km := 0) (x := (nx p : Int)) ⟨by decide, by decide⟩ (by omega)
            have b2 : TM 72 ((t.ft nx p).put (t.e p) 0 0 (hc (nx p : Int))) μ3 := b2
            have ok2 : ((t.ft nx p).put (t.e p) 0 0 (hc (nx p : Int))).Ok := hft.put _ (by omega) (fun _ => ⟨by omega, by omega, hc_R (by omega)⟩)
            have fwd : ∃ μ4, (if ((p : Int) + 1) < (t.ne : Int) then wr 89 64 μ3 ((p : Int) + 1) (-1) (fun μ3 => At cr2 (d + 5) 235 6 [] [71, (t.ne : Int), (k : Int) + 1, (p : Int) + 1, 0] μ3) else At cr2 (d + 5) 235 6 [] [71, (t.ne : Int), (k : Int) + 1, (p : Int) + 1, 0] μ3) = At cr2 (d + 5) 235 4 [] [71, (t.ne : Int), ((k + 1 : Nat) : Int), ((p + 1 : Nat) : Int), 0] μ4 ∧ same S889 μ3 μ4 ∧ (∀ i, i ≤ p → μ4 89 i = μ3 89 i) ∧ (p + 1 < t.ne → μ4 89 (p + 1) = -1) ∧ (∀ i, μ4 88 i = μ3 88 i) := by
              by_cases e : p + 1 < t.ne
              · rw [if_pos (by omega), wr_p (by omega) (by omega), B235_6, show ((p : Int) + 1).toNat = p + 1 by omega]
                exact ⟨_, rfl, same.rf.up rfl, fun i hi => up_ne _ _ _ _ (Or.inr (by omega)), fun _ => up_eq _ _ _ _, fun i => up_ne _ _ _ _ (Or.inl (by decide))⟩
              · rw [if_neg (by omega), B235_6]
                exact ⟨μ3, rfl, same.rf, fun _ _ => rfl, fun w => absurd w e, fun _ => rfl⟩
            obtain ⟨μ4, c1, c2, c3, c4, c5⟩ := fwd
            obtain ⟨μ', g1, g2, g3, g4⟩ := fill_lm d ok n (p + 1) (k + 1) (nset (nset nx p (nx p + 1)) (p + 1) 0) μ4 (hx.on q1) (by omega) (by omega) (by omega) ⟨Or.inl (by rw [ft_on]; exact b2.keep2 ok2 c2 (fun _ _ => rfl) (fun _ _ _ => rfl)), (hP2.keep b3 (SM_o (by decide)) (fun _ => SM_o (by decide)) (fun _ => SM_o (by decide))).keep c2 rfl (fun _ => rfl) (fun _ => rfl), fun i hi => (c5 i).trans ((b3 _ _ (SM_o (by decide))).trans (hL2 i hi)), fun i hi1 hi2 => by
              by_cases e : i = p + 1
              · rw [e, nset_eq, c4 (by omega)]; rfl
              · rw [nset_ne _ _ e, c3 i (by omega), b3 _ _ (SM_o (by decide))]
                exact h89 i (by omega) hi2⟩
            rw [if_neg (by decide), if_pos (show true = true from rfl), rd_p (by omega) (by omega), Int.toNat_natCast, up_eq, b1, bnd_s, w32_i (x := (p : Int) + 1) (by omega) (by omega)]
            refine ⟨μ', c1.trans g1, g2, sT.tn ((SM_T (by omega) b3).tn ((S889_T c2).tn g3)), sF.tn ((SM_F b3).tn ((S889_F c2).tn g4))⟩
        · obtain ⟨μ', g1, g2, g3, g4⟩ := out_m (d + 3) ok hp hx.1 hT2 hL2 (x3 := (p : Int)) (by omega) (k := k + 1) (by omega)
          rw [if_pos (by omega), if_neg q2, B235_6, B235_4, if_neg (by omega), if_pos (by omega), if_pos (by omega)]
          rw [if_pos (by omega)] at g1
          exact ⟨μ', g1, g2, sT.tn g3, sF.tn g4⟩
      · rw [if_pos (by omega), if_neg q1, w32_i (by omega) (by omega)]
        by_cases q2 : p = 0
        · obtain ⟨μ', g1, g2, g3, g4⟩ := out_m (d + 3) ok hp hx.1 hT2 hL2 (x3 := (p : Int) + -1) (by omega) (k := k) (by omega)
          rw [if_pos q2, B235_4, if_pos (by omega)]
          rw [if_neg (by omega)] at g1
          exact ⟨μ', g1, g2, sT.tn g3, sF.tn g4⟩
        · obtain ⟨p', rfl⟩ : ∃ p', p = p' + 1 := ⟨p - 1, by omega⟩
          obtain ⟨μ', g1, g2, g3, g4⟩ := fill_lm d ok n p' k nx (up μ1 89 (p' + 1) (nx (p' + 1) : Int)) (hx.back q2) (by omega) (by omega) hk ⟨Or.inr ⟨by omega, (hx.1 p' (by omega)).1, hT2⟩, hP2, hL2, fun i hi1 hi2 => by
            rw [up_ne _ _ _ _ (Or.inr (by omega))]
            exact (a3 _ _ (SM_o (by decide))).trans (h4 i (by omega) hi2)⟩
          rw [if_neg q2, Nat.add_sub_cancel, show ((p' + 1 : Nat) : Int) + -1 = (p' : Int) by omega]
          exact ⟨μ', g1, g2, sT.tn g3, sF.tn g4⟩
theorem fill_m (d : Nat) {σ : St} {μ : amM} (ok : σ.Ok) (h : MI σ μ) : OM μ (RD cr2 (d + 20) 235 [71] μ) (fillS σ) := by
  have h64 := ne_le ok.t
  obtain ⟨μ1, a1, a2, a3⟩ := findPairs_e (d + 17) ok.t h.tm
  have t1 : TM 72 σ.t μ1 := (h.set0 ok (SP_Sc a3)).tm
  obtain ⟨μ2, b1, b2, b3, b4⟩ := list_m (d + 18) ok.t σ.t.lots 0 μ1 (by omega) t1 (fun i hi => by cases hi)
  have beg : ∃ μ3, At cr2 (d + 19) 235 3 [] [71, (σ.t.ne : Int), 0, 0, 0] μ2 = At cr2 (d + 19) 235 4 [] [71, (σ.t.ne : Int), 0, 0, 0] μ3 ∧ same S889 μ2 μ3 ∧ (0 < σ.t.ne → μ3 89 0 = -1) ∧ (∀ i, μ3 88 i = μ2 88 i) := by
    rw [B235_3]
    by_cases e : 0 < σ.t.ne
    · rw [if_pos (by omega), wf_e]
      exact ⟨_, rfl, same.rf.up rfl, fun _ => up_eq _ _ _ _, fun i => up_ne _ _ _ _ (Or.inl (by decide))⟩
    · rw [if_neg (by omega)]
      exact ⟨μ2, rfl, same.rf, fun w => absurd w e, fun _ => rfl⟩
  obtain ⟨μ3, c1, c2, c3, c4⟩ := beg
  have t3 : TM 72 σ.t μ3 := b2.keep2 ok.t c2 (fun _ _ => rfl) (fun _ _ _ => rfl)
  obtain ⟨μ4, e1, e2, e3, e4⟩ := fill_lm (d + 14) ok.t 40001 0 0 (fun _ => 0) μ3 NX_0 (Nat.zero_le _) (by omega) (by omega) ⟨Or.inl t3, (a2.keep b4 rfl (fun _ => rfl) (fun _ => rfl)).keep c2 rfl (fun _ => rfl) (fun _ => rfl), fun i hi => (c4 i).trans (b3 i hi), fun i hi1 hi2 => by
    rw [show i = 0 by omega, c3 (by omega)]; rfl⟩
  have sT : same (or2 hT ScM) μ μ4 := (SP_T a3).tn ((S889_T b4).tn ((S889_T c2).tn e3))
  have sF : same FM μ μ4 := (SP_F a3).tn ((S889_F b4).tn ((S889_F c2).tn e4))
  have hmi : MI (σ.setT (σ.t.fe σ.t.fr)) μ4 := h.setT ok sT e2
  have run : RD cr2 (d + 20) 235 [71] μ = fin235 (d + 19) σ.t.fr.1 σ.t.ne μ4 := by
    rw [M235, a1, bnd_s]
    refine b1.trans (c1.trans e1)
  rw [run]
  unfold fillS fin235
  unfold Tn.fe at hmi
  by_cases h0 : σ.t.fr.1 = 0
  · rw [if_pos h0, if_pos h0]
    rw [if_pos h0] at hmi
    exact ⟨μ4, rfl, hmi, sF⟩
  · rw [if_neg h0, if_neg h0]
    rw [if_neg h0] at hmi
    have hk : (0 : Int) ≤ (σ.t.fr.1 : Int) ∧ (σ.t.fr.1 : Int) < 6 := by
      rcases fl_R σ.t 40001 0 0 (fun _ => 0) (Nat.zero_le _) NX_0 with ⟨w, -⟩ | w | w
      · exact absurd w h0
      · have w : σ.t.fr.1 = 2 := w
        omega
      · have w : σ.t.fr.1 = 4 := w
        omega
    rw [B235_12]
    exact OM.tr ((OM.no _ ok (show MI σ μ4 from hmi) hk.1 hk.2).bi (fun _ _ => rfl)) sF
