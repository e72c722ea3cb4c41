/-! ===== a row drawn, by the reference ===== -/
theorem cn_m (d : Nat) {t : Tn} {μ : amM} (hg : GO t μ) {k a i : Nat} (ha : a < 81) : ∀ n j, j + n = 81 → At cr2 d 253 5 [] [71, (k : Int), (a : Int), (i : Int), (cntB (fun y => t.go (hc (a : Int)) (hc y)) j : Int), (j : Int)] μ = At cr2 d 253 8 [] [71, (k : Int), (a : Int), (i : Int), (cntB (fun y => t.go (hc (a : Int)) (hc y)) 81 : Int), 0] μ
  | 0, j, hj => by
    rw [B253_5, if_neg (by omega), show j = 81 by omega]
  | n + 1, j, hj => by
    have hle := cntB_le (fun y => t.go (hc (a : Int)) (hc y)) j
    have ih := cn_m d hg (k := k) (i := i) ha n (j + 1) (by omega)
    rw [cntB_succ] at ih
    rw [B253_5, if_pos (by omega), hg.rd ha (by omega)]
    unfold Tn.G
    cases hb : t.go (hc (a : Int)) (hc (j : Int)) with
    | false =>
      rw [if_pos (show bi false = 0 from rfl), B253_6, B253_7, w32_i (x := _ + 0) (by omega) (by omega), w32_i (x := _ + 1) (by omega) (by omega)]
      rw [hb, if_neg (by decide)] at ih
      exact ih
    | true =>
      rw [if_neg (show ¬ bi true = 0 from by decide), B253_7, w32_i (x := _ + 1) (by omega) (by omega), w32_i (x := _ + 1) (by omega) (by omega)]
      rw [hb, if_pos rfl] at ih
      exact ih
theorem se_m (d : Nat) {t : Tn} {μ : amM} (hg : GO t μ) {a : Nat} (ha : a < 81) (r : Int) : ∀ (n j : Nat) (c : Int), j + n = 81 → 0 ≤ c ∧ c ≤ j → At cr2 d 255 1 [] [71, (a : Int), r, c, (j : Int)] μ = some (sel (fun y => t.go (hc (a : Int)) (hc y)) (-1) n (j : Int) (r - c), μ)
  | 0, j, c, hj, hc' => by
    rw [B255_1, if_neg (by omega), B255_4]; rfl
  | n + 1, j, c, hj, hc' => by
    have i1 := se_m d hg ha r n (j + 1) (c + 1) (by omega) (by omega)
    have i2 := se_m d hg ha r n (j + 1) c (by omega) (by omega)
    rw [B255_1, if_pos (by omega), hg.rd ha (by omega)]
    unfold sel Tn.G
    cases hb : t.go (hc (a : Int)) (hc (j : Int)) with
    | false =>
      rw [if_pos (show bi false = 0 from rfl), B255_3, w32_i (x := _ + 1) (by omega) (by omega), if_neg (by decide)]
      exact i2
    | true =>
      rw [if_neg (show ¬ bi true = 0 from by decide), if_pos rfl]
      by_cases q : c = r
      · rw [if_pos q, if_pos (by omega)]
      · rw [if_neg q, if_neg (by omega), B255_2, B255_3, w32_i (x := _ + 1) (by omega) (by omega), w32_i (x := _ + 1) (by omega) (by omega)]
        rw [show r - (c + 1) = r - c - 1 by omega] at i1
        exact i1
theorem dw_m (d : Nat) {k : Nat} (hk : k < 4) {z : Nat} (hz : z ≤ 64) : ∀ (n i : Nat) (x : Int) (σ : St) (μ : amM), i + n = z → σ.ss k = z → 0 ≤ x ∧ x < 81 → σ.Ok → MI σ μ → GO σ.t μ → ∃ μ', At cr2 (d + 5) 253 3 [] [71, (k : Int), x, (i : Int), 0, 0] μ = some ((z : Int), μ') ∧ MI (dr n σ k i x) μ' ∧ same FM μ μ'
  | 0, i, x, σ, μ, hi, hz', hx, ok, h, hg => by
    have hp := h.2.2.2.2.1 k hk
    rw [B253_3, rd_p (by omega) (by omega), Int.toNat_natCast, hp.2.1, if_neg (by omega), B253_10, rd_p (by omega) (by omega), Int.toNat_natCast, hp.2.1, hz']
    exact ⟨μ, rfl, h, same.rf⟩
  | n + 1, i, x, σ, μ, hi, hz', hx, ok, h, hg => by
    have hp := h.2.2.2.2.1 k hk
    obtain ⟨c1, c2, c3⟩ := draw_m (d + 3) ok h
    have oky : (σ.setY σ.k.y σ.k.s (drw σ.k.z)).Ok := ok.setY ok.1.2.2.2.2.1 ok.1.2.2.2.2.2.1 (drw_i _)
    have mp := M_pos ok.t
    have hr := dh_R ok i hx
    have d1 := dv_R (drw σ.k.z)
    have hp2 := c2.2.2.2.2.1 k hk
    have hg2 : GO σ.t (up μ 72 7 (drw σ.k.z)) := fun a b ha hb => (up_ne _ _ _ _ (Or.inl (by decide))).trans (hg a b ha hb)
    have s1 : same (hK k) (up μ 72 7 (drw σ.k.z)) (up (up μ 72 7 (drw σ.k.z)) 93 (64 * k + i) (σ.dh i x)) := same.rf.up (hK_3 (by omega) (by omega))
    have hd : MI (σ.ds k i x) (up (up μ 72 7 (drw σ.k.z)) 93 (64 * k + i) (σ.dh i x)) := by
      refine c2.setK oky s1 hp2.1 hp2.2.1 (fun j hj => ?_)
      rw [up_if]
      unfold fset
      by_cases e : j = i
      · rw [if_pos (by omega), if_pos e]
      · rw [if_neg (by omega), if_neg e]; exact hp2.2.2 j hj
    obtain ⟨μ', g1, g2, g3⟩ := dw_m d hk hz n (i + 1) (σ.dh i x) (σ.ds k i x) _ (by omega) ((nset_eq _ _ _).trans hz') ⟨hr.1, by omega⟩ (ds_ok ok hk i x) hd (fun a b ha hb => (up_ne _ _ _ _ (Or.inl (by decide))).trans (hg2 a b ha hb))
    refine ⟨μ', ?_, g2, c3.tn ((hK_F s1).tn g3)⟩
    have e9 : At cr2 (d + 5) 253 9 [] [71, (k : Int), σ.dh i x, (i : Int), 0, 0] (up μ 72 7 (drw σ.k.z)) = some ((z : Int), μ') := by
      rw [B253_9, w32_i (x := 64 * (k : Int)) (by omega) (by omega), w32_i (x := 64 * (k : Int) + i) (by omega) (by omega), wr_p (by omega) (by omega), show (64 * (k : Int) + i).toNat = 64 * k + i by omega, w32_i (by omega) (by omega)]
      exact g1
    rw [B253_3, rd_p (by omega) (by omega), Int.toNat_natCast, hp.2.1, if_pos (by omega)]
    by_cases q : i = 0
    · rw [if_pos (by omega), M254, c1, bnd_s, if_neg (by decide), bnd_s]
      rw [show σ.dh i x = (dv (drw σ.k.z)).tmod 81 from if_pos q] at e9
      exact e9
    · obtain ⟨a, rfl⟩ := Int.eq_ofNat_of_zero_le hx.1
      have e5 := cn_m (d + 5) hg (k := k) (i := i) (show a < 81 by omega) 81 0 rfl
      have cM := M_count σ.t (a := a) (by omega)
      have m1 := Int.emod_nonneg (dv (drw σ.k.z)) (show σ.t.M ≠ 0 by omega)
      have m2 := Int.emod_lt_of_pos (dv (drw σ.k.z)) mp.1
      have s := sel_z (P := fun y => σ.t.go (hc (a : Int)) (hc y)) 0 (-1) 81 0 ((dv (drw σ.k.z)) % σ.t.M) m1 (by
        show _ + ((0 : Nat) : Int) < (cntB (fun y => σ.t.go (hc (a : Int)) (hc y)) 81 : Int)
        omega)
      have e255 := se_m (d + 4) hg2 (show a < 81 by omega) ((dv (drw σ.k.z)).tmod σ.t.M) 81 0 0 rfl ⟨by decide, by decide⟩
      rw [if_neg (by omega), B253_4]
      refine e5.trans ?_
      rw [cM, B253_8, M254, c1, bnd_s, if_neg (by omega), bnd_s, M255]
      rw [show σ.dh i (a : Int) = sel (fun y => σ.t.go (hc (a : Int)) (hc y)) 0 81 0 ((dv (drw σ.k.z)).tmod σ.t.M) from if_neg q] at e9
      rw [Int.tmod_eq_emod_of_nonneg d1.1] at e255 e9 ⊢
      rw [Int.sub_zero, ← s.1] at e255
      refine (congrArg (fun r => bnd r _) e255).trans ?_
      exact e9
theorem drawn_m (d : Nat) {σ : St} {μ : amM} (ok : σ.Ok) (h : MI σ μ) (s : Int) : OM μ (RD cr2 (d + 20) 253 [71, s] μ) (drawnS σ s) := by
  unfold drawnS
  rw [M253, mSheet_e, bnd_s, ifb]
  refine OM.cd (fun hs => ?_) (fun _ => (OM.no _ ok h (by decide) (by decide)).bi (fun _ _ => rfl))
  obtain ⟨k, rfl, hk⟩ := isSh_n hs
  have hp := h.2.2.2.2.1 k hk
  have ho := ok.2.2.1 k hk
  rw [B253_1, rd_p (by omega) (by omega), Int.toNat_natCast, hp.1]
  by_cases q : σ.sb k = 0
  · rw [if_pos q, q, show ((0 : Int) == 0) = true from rfl, cond_true]
    exact (OM.no _ ok h (by decide) (by decide)).bi (fun _ _ => rfl)
  · rw [if_neg q, beq_false_of_ne q, cond_false, B253_2]
    obtain ⟨μ1, a1, a2, a3⟩ := findGoes_e (d + 17) h.tm
    refine OM.bs a1 (OM.tr ?_ (SG_F (S86_G a3)))
    have hm1 := h.set0 ok (SG_Sc (S86_G a3))
    obtain ⟨μ', g1, g2, g3⟩ := dw_m (d + 14) hk ho.2 (σ.ss k) 0 0 σ μ1 (by omega) rfl (by decide) ok hm1 a2
    exact ⟨μ', g1, g2, g3⟩
