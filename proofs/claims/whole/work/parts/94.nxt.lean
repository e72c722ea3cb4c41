/-! ===== the class's search: the list behind a change ===== -/
def SN9 (lev c i : Nat) : Bool := Nat.beq c (44 + lev) || (Nat.beq c 48 && Nat.beq i (lev + 1))
theorem SN9_e {lev c i : Nat} (h : SN9 lev c i = true) : c = 44 + lev ∨ (c = 48 ∧ i = lev + 1) := by
  unfold SN9 at h
  rw [Bool.or_eq_true, Bool.and_eq_true] at h
  rcases h with h | ⟨h1, h2⟩
  · exact Or.inl (Nat.eq_of_beq_eq_true h)
  · exact Or.inr ⟨Nat.eq_of_beq_eq_true h1, Nat.eq_of_beq_eq_true h2⟩
theorem SN9_f {lev c i : Nat} (h1 : c ≠ 44 + lev) (h2 : c ≠ 48 ∨ i ≠ lev + 1) : SN9 lev c i = false := by
  cases e : SN9 lev c i with
  | false => rfl
  | true =>
    rcases SN9_e e with q | ⟨q1, q2⟩
    · exact absurd q h1
    · rcases h2 with h | h
      · exact absurd q1 h
      · exact absurd q2 h
theorem SN9_t (lev i : Nat) : SN9 lev (44 + lev) i = true := by
  unfold SN9
  rw [Nat.beq_refl]; rfl
theorem SN9_t2 (lev : Nat) : SN9 lev 48 (lev + 1) = true := by
  unfold SN9
  rw [Nat.beq_refl, Nat.beq_refl, Bool.and_true, Bool.or_true]
def prv (p : Nat × Nat) : Int := 64 * (p.1 : Int) + (p.2 : Int)
theorem PL.more {c : Nat} {l : List (Nat × Nat)} {μ : amM} (h : PL c l μ) (x : Nat × Nat) : PL c (l ++ [x]) (up μ c l.length (prv x)) := fun i hi => by
  by_cases q : i = l.length
  · rw [q, up_eq, List.getD_eq_getElem?_getD, List.getElem?_append_right (Nat.le_refl _), Nat.sub_self]; rfl
  · rw [List.length_append] at hi
    have hi : i < l.length := by
      have : ([x] : List (Nat × Nat)).length = 1 := rfl
      omega
    rw [up_ne _ _ _ _ (Or.inr q), List.getD_eq_getElem?_getD, List.getElem?_append_left hi, ← List.getD_eq_getElem?_getD]
    exact h i hi
theorem PL.sm {c : Nat} {l : List (Nat × Nat)} {μ μ' : amM} {S : Nat → Nat → Bool} (h : PL c l μ) (hs : same S μ μ') (h1 : ∀ i, S c i = false) : PL c l μ' := fun i hi => (hs _ _ (h1 i)).trans (h i hi)
theorem w4l {a i : Nat} (ha : a < 64) (hi : i < 4) : w32 ((w32 ((a : Int) * 4)) + (i : Int)) = ((4 * a + i : Nat) : Int) ∧ 4 * a + i < 256 := by
  refine ⟨?_, by omega⟩
  rw [w32_i (x := (a : Int) * 4) (by omega) (by omega), w32_i (by omega) (by omega)]
  omega
theorem w6o {a b : Nat} (ha : a < 64) (hb : b < 64) : w32 ((w32 (64 * (a : Int))) + (b : Int)) = prv (a, b) := by
  rw [w32_i (x := 64 * (a : Int)) (by omega) (by omega), w32_i (by omega) (by omega)]
  rfl
theorem nx_1 (d : Nat) {lev : Nat} (hlev : lev < 4) {lot : Nat} {Q : List (Nat × Nat)} (hQl : Q.length ≤ 128) (hQ : ∀ p ∈ Q, p.1 < 64 ∧ p.2 < 64) : ∀ (n i : Nat) (A : List (Nat × Nat)) (μ : amM), i + n = Q.length → A.length ≤ i → LQ lev Q μ → PL (44 + lev) A μ → ∃ μ', At cr2 d 19 1 [] [41, (lev : Int), (lot : Int), ((43 + lev : Nat) : Int), ((44 + lev : Nat) : Int), (A.length : Nat), (i : Int), 0] μ = At cr2 d 19 3 [] [41, (lev : Int), (lot : Int), 0, ((44 + lev : Nat) : Int), ((A ++ (Q.drop i).filter (fun p => !tch lot p)).length : Nat), 0, 0] μ' ∧ PL (44 + lev) (A ++ (Q.drop i).filter (fun p => !tch lot p)) μ' ∧ same (SN9 lev) μ μ'
  | 0, i, A, μ, hi, hA, hq, ha => by
    have e0 : i = Q.length := hi
    rw [B19_1, rd_p (geI _) (ltI (show lev < 5 by omega)), Int.toNat_natCast, hq.1, if_neg (by omega), List.drop_of_length_le (by omega), List.filter_nil, List.append_nil]
    exact ⟨μ, rfl, ha, same.rf⟩
  | n + 1, i, A, μ, hi, hA, hq, ha => by
    have hil : i < Q.length := by omega
    have i128 : i < 128 := by omega
    have iN : i + 1 + n = Q.length := by omega
    have A128 : A.length < 128 := by omega
    have hA1 : A.length ≤ i + 1 := by omega
    have l5 : lev < 5 := by omega
    have l5' : lev + 1 < 5 := by omega
    have wi := wi1 (show i < 1000 from Nat.lt_trans i128 (by decide))
    have wa := wi1 (show A.length < 1000 from Nat.lt_trans A128 (by decide))
    have hp := hQ _ (getD_mem (0, 0) hil)
    have pq := pr64 hp.1 hp.2
    have cell := hq.2 i hil
    have ec : ((44 + lev : Nat) : Int) = ((43 + (lev + 1) : Nat) : Int) := by omega
    have ih := nx_1 d hlev (lot := lot) hQl hQ n (i + 1)
    rw [B19_1, rd_p (geI _) (ltI l5), Int.toNat_natCast, hq.1, if_pos (ltI hil), lqA l5 i128, cell, pq.1, drop_getD (0, 0) hil]
    have skip : tch lot (Q.getD i (0, 0)) = true → ∃ μ', At cr2 d 19 2 [] [41, (lev : Int), (lot : Int), ((43 + lev : Nat) : Int), ((44 + lev : Nat) : Int), (A.length : Nat), (i : Int), 0] μ = At cr2 d 19 3 [] [41, (lev : Int), (lot : Int), 0, ((44 + lev : Nat) : Int), ((A ++ (Q.getD i (0, 0) :: Q.drop (i + 1)).filter (fun p => !tch lot p)).length : Nat), 0, 0] μ' ∧ PL (44 + lev) (A ++ (Q.getD i (0, 0) :: Q.drop (i + 1)).filter (fun p => !tch lot p)) μ' ∧ same (SN9 lev) μ μ' := fun q => by
      rw [List.filter_cons_of_neg (by rw [q]; decide), B19_2, wi]
      exact ih A μ iN hA1 hq ha
    by_cases q1 : (Q.getD i (0, 0)).1 = lot
    · rw [if_pos (by rw [q1])]
      exact skip (by unfold tch; rw [q1, beq_self_eq_true]; rfl)
    · rw [if_neg (fun e => q1 (Int.ofNat_inj.mp e)), lqA l5 i128, cell, pq.2]
      by_cases q2 : (Q.getD i (0, 0)).2 = lot
      · rw [if_pos (by rw [q2])]
        exact skip (by unfold tch; rw [q2, beq_self_eq_true, Bool.or_true])
      · have qf : tch lot (Q.getD i (0, 0)) = false := by
          unfold tch
          rw [beq_false_of_ne q1, beq_false_of_ne q2]; rfl
        have s1 : same (SN9 lev) μ (up μ (44 + lev) A.length (prv (Q.getD i (0, 0)))) := same.rf.up (SN9_t lev _)
        have hq1 : LQ lev Q (up μ (44 + lev) A.length (prv (Q.getD i (0, 0)))) := ⟨(up_ne _ _ _ _ (Or.inl (by omega))).trans hq.1, fun j hj => (up_ne _ _ _ _ (Or.inl (by omega))).trans (hq.2 j hj)⟩
        obtain ⟨μ', g1, g2, g3⟩ := ih (A ++ [Q.getD i (0, 0)]) _ iN (by
          rw [List.length_append]
          show A.length + 1 ≤ i + 1
          omega) hq1 (ha.more _)
        rw [List.append_assoc] at g1 g2
        refine ⟨μ', ?_, ?_, s1.tn g3⟩
        · have lw := lqW l5' A128 (μ := μ) (v := 64 * ((Q.getD i (0, 0)).1 : Int) + ((Q.getD i (0, 0)).2 : Int)) (f := fun μ1 => At cr2 d 19 2 [] [41, (lev : Int), (lot : Int), ((43 + lev : Nat) : Int), ((44 + lev : Nat) : Int), (w32 (((A.length : Nat) : Int) + 1)), (i : Int), 0] μ1)
          rw [show 43 + (lev + 1) = 44 + lev by omega] at lw
          rw [if_neg (fun e => q2 (Int.ofNat_inj.mp e)), lqA l5 i128, cell]
          refine lw.trans ?_
          rw [B19_2, wi, wa, List.filter_cons_of_pos (by rw [qf]; rfl)]
          rw [List.length_append] at g1
          exact g1
        · rw [List.filter_cons_of_pos (by rw [qf]; rfl)]
          exact g2
theorem nx_2 (d : Nat) {t : Tn} (ok : t.Ok) {lev : Nat} (hlev : lev < 4) {lot : Nat} (hl : lot < t.lots) : ∀ (n i : Nat) (A : List (Nat × Nat)) (μ : amM), i + n = (t.nb lot).length → (A ++ (((t.nb lot).drop i).filter (fun o => t.wrong lot o)).map (fun o => (lot, o))).length ≤ 128 → TC 2 t μ → μ 41 4 = 2 → PL (44 + lev) A μ → ∃ μ', At cr2 (d + 5) 19 4 [] [41, (lev : Int), (lot : Int), 0, ((44 + lev : Nat) : Int), (A.length : Nat), (i : Int), 0] μ = some (0, μ') ∧ LQ (lev + 1) (A ++ (((t.nb lot).drop i).filter (fun o => t.wrong lot o)).map (fun o => (lot, o))) μ' ∧ same (SN9 lev) μ μ'
  | 0, i, A, μ, hi, hA, h, h4, ha => by
    have h64 := ok.le.2
    have e7 := (h.2.2 lot hl).1
    have lot64 : lot < 64 := Nat.lt_of_lt_of_le hl h64
    have wl1 := wi1 (show lev < 1000 by omega)
    have l5 : lev + 1 < 5 := by omega
    rw [List.drop_of_length_le (by omega)] at hA ⊢
    rw [B19_4, h4, if_pos rfl, rd_p (geI _) (ltI lot64), Int.toNat_natCast, e7, if_neg (by omega), B19_6, wl1, wr_p (geI _) (ltI l5), Int.toNat_natCast]
    refine ⟨_, rfl, ⟨?_, ?_⟩, same.rf.up (SN9_t2 lev)⟩
    · rw [up_eq]
      show _ = ((A ++ []).length : Int)
      rw [List.append_nil]
    · show PL (43 + (lev + 1)) (A ++ []) _
      rw [List.append_nil, show 43 + (lev + 1) = 44 + lev by omega]
      exact fun j hj => (up_ne _ _ _ _ (Or.inl (by omega))).trans (ha j hj)
  | n + 1, i, A, μ, hi, hA, h, h4, ha => by
    have h64 := ok.le.2
    have hn := ok.nbs hl
    have hil : i < (t.nb lot).length := by omega
    have i4 : i < 4 := by omega
    have iN : i + 1 + n = (t.nb lot).length := by omega
    have e7 := (h.2.2 lot hl).1
    have e6 := (h.2.2 lot hl).2 i hil
    have lot64 : lot < 64 := Nat.lt_of_lt_of_le hl h64
    have ho := (hn.2 _ (getD_mem 0 hil)).1
    have o64 : (t.nb lot).getD i 0 < 64 := Nat.lt_of_lt_of_le ho h64
    have wi := wi1 (show i < 1000 by omega)
    obtain ⟨w6, i6⟩ := w4l lot64 i4
    have w64' := w6o lot64 o64
    have hd := drop_getD 0 hil
    rw [hd] at hA ⊢
    rw [B19_4, h4, if_pos rfl, rd_p (geI _) (ltI lot64), Int.toNat_natCast, e7, if_pos (ltI hil), if_pos rfl, w6, rd_p (geI _) (ltI i6), Int.toNat_natCast, e6]
    cases q : t.wrong lot ((t.nb lot).getD i 0) with
    | false =>
      rw [List.filter_cons_of_neg (by rw [q]; decide)] at hA ⊢
      have go5 : ∃ μ', At cr2 (d + 5) 19 5 [] [41, (lev : Int), (lot : Int), 0, ((44 + lev : Nat) : Int), (A.length : Nat), (i : Int), 0] μ = some (0, μ') ∧ LQ (lev + 1) (A ++ (((t.nb lot).drop (i + 1)).filter (fun o => t.wrong lot o)).map (fun o => (lot, o))) μ' ∧ same (SN9 lev) μ μ' := by
        rw [B19_5, wi]
        exact nx_2 d ok hlev hl n (i + 1) A μ iN hA h h4 ha
      by_cases q2 : ((A.length : Nat) : Int) < 128
      · rw [if_pos q2, if_pos rfl, isWrong_e _ ok h hl ho, bnd_s, q, if_pos (by rfl)]
        exact go5
      · rw [if_neg q2]
        exact go5
    | true =>
      rw [List.filter_cons_of_pos (p := fun o => t.wrong lot o) q, List.map_cons] at hA ⊢
      have A128 : A.length < 128 := by
        rw [List.length_append, List.length_cons] at hA
        omega
      have wa := wi1 (show A.length < 1000 from Nat.lt_trans A128 (by decide))
      have s1 : same (SN9 lev) μ (up μ (44 + lev) A.length (prv (lot, (t.nb lot).getD i 0))) := same.rf.up (SN9_t lev _)
      have h1 : TC 2 t (up μ (44 + lev) A.length (prv (lot, (t.nb lot).getD i 0))) := h.keep s1 (fun _ _ _ => SN9_f (by omega) (Or.inl (by decide))) (fun _ => SN9_f (by omega) (Or.inl (by decide))) (fun _ => SN9_f (by omega) (Or.inl (by decide))) (fun _ => SN9_f (by omega) (Or.inl (by decide))) (fun _ => SN9_f (by omega) (Or.inl (by decide))) (fun _ => SN9_f (by omega) (Or.inl (by decide)))
      obtain ⟨μ', g1, g2, g3⟩ := nx_2 d ok hlev hl n (i + 1) (A ++ [(lot, (t.nb lot).getD i 0)]) _ iN (by
        rw [List.append_assoc]
        exact hA) h1 ((up_ne _ _ _ _ (Or.inl (by omega))).trans h4) (ha.more _)
      rw [List.append_assoc] at g2
      refine ⟨μ', ?_, g2, s1.tn g3⟩
      have lw := lqW (lev := lev + 1) (by omega) A128 (μ := μ) (v := prv (lot, (t.nb lot).getD i 0)) (f := fun μ2 => At cr2 (d + 5) 19 5 [] [41, (lev : Int), (lot : Int), 0, ((44 + lev : Nat) : Int), (w32 (((A.length : Nat) : Int) + 1)), (i : Int), 0] μ2)
      rw [show 43 + (lev + 1) = 44 + lev by omega] at lw
      rw [if_pos (show ((A.length : Nat) : Int) < 128 from ltI A128), if_pos rfl, isWrong_e _ ok h hl ho, bnd_s, q, if_neg (by decide), w64']
      refine lw.trans ?_
      rw [B19_5, wi, wa]
      rw [List.length_append] at g1
      exact g1
theorem nxt_e (d : Nat) {t : Tn} (ok : t.Ok) {lev : Nat} (hlev : lev < 4) {lot : Nat} (hl : lot < t.lots) {Q : List (Nat × Nat)} (hQl : Q.length ≤ 128) (hQ : ∀ p ∈ Q, p.1 < 64 ∧ p.2 < 64) (hN : (nxt t lot Q).length ≤ 128) {μ : amM} (h : TC 2 t μ) (h4 : μ 41 4 = 2) (hq : LQ lev Q μ) : ∃ μ', RD cr2 (d + 6) 19 [41, (lev : Int), (lot : Int)] μ = some (0, μ') ∧ LQ (lev + 1) (nxt t lot Q) μ' ∧ same (SN9 lev) μ μ' := by
  have wl1 := wi1 (show lev < 1000 by omega)
  obtain ⟨μ1, a1, a2, a3⟩ := nx_1 (d + 5) hlev (lot := lot) hQl hQ Q.length 0 [] μ (by omega) (Nat.le_refl _) hq (fun i hi => by cases hi)
  rw [List.nil_append, List.drop_zero] at a1 a2
  have h1 : TC 2 t μ1 := h.keep a3 (fun _ _ _ => SN9_f (by omega) (Or.inl (by decide))) (fun _ => SN9_f (by omega) (Or.inl (by decide))) (fun _ => SN9_f (by omega) (Or.inl (by decide))) (fun _ => SN9_f (by omega) (Or.inl (by decide))) (fun _ => SN9_f (by omega) (Or.inl (by decide))) (fun _ => SN9_f (by omega) (Or.inl (by decide)))
  obtain ⟨μ2, b1, b2, b3⟩ := nx_2 d ok hlev hl (t.nb lot).length 0 _ μ1 (by omega) (by rw [List.drop_zero]; exact hN) h1 ((a3 _ _ (SN9_f (by omega) (Or.inl (by decide)))).trans h4) a2
  rw [List.drop_zero] at b2
  refine ⟨μ2, ?_, b2, a3.tn b3⟩
  rw [M19, lqQ (show lev < 5 by omega), wl1, lqQ (show lev + 1 < 5 by omega), show 43 + (lev + 1) = 44 + lev by omega]
  refine a1.trans ?_
  rw [B19_3]
  exact b1
