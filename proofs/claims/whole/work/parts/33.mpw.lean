theorem PF.at {l : List (Nat × Nat)} {μ : amM} (h : PF l μ) {i : Nat} (hi : i < l.length) : μ 76 i = ((l.getD i (0, 0)).1 : Int) ∧ μ 77 i = ((l.getD i (0, 0)).2 : Int) := h.2 i hi
theorem Tn.Ok.prs_lt {t : Tn} (h : t.Ok) : ∀ p ∈ t.prs, p.1 < t.lots ∧ p.2 < t.lots ∧ p.1 < p.2 := by
  intro p hp
  rw [h.ord] at hp
  obtain ⟨lot, h1, h2⟩ := List.mem_flatMap.mp hp
  obtain ⟨o, h3, rfl⟩ := List.mem_map.mp h2
  obtain ⟨h4, h5⟩ := List.mem_filter.mp h3
  have hl := List.mem_range.mp h1
  exact ⟨hl, ((h.nbs hl).2 o h4).1, of_decide_eq_true h5⟩
theorem mPairWrong_e (d : Nat) {t : Tn} {μ : amM} (ok : t.Ok) (h : TM 72 t μ) (hp : PF t.prs μ) {i : Nat} (hi : i < t.prs.length) : RD cr2 (d + 3) 178 [71, (i : Int)] μ = some (bi (t.wrong (t.prs.getD i (0, 0)).1 (t.prs.getD i (0, 0)).2), μ) := by
  have h128 := ok.prs
  have hlt := ok.prs_lt _ (getD_mem (0, 0) hi)
  obtain ⟨e1, e2⟩ := hp.at hi
  rw [M178, rd_p (by omega) (by omega), Int.toNat_natCast, e1, mBound_e d ok h hlt.1, bnd_s]
  unfold Tn.wrong
  cases ba : t.bound (t.prs.getD i (0, 0)).1 with
  | false => rw [if_pos (show bi false = 0 from rfl), B178_1, B178_2]; rfl
  | true =>
    rw [if_neg (show ¬ bi true = 0 from by decide), rd_p (by omega) (by omega), Int.toNat_natCast, e2, mBound_e d ok h hlt.2.1, bnd_s]
    cases bb : t.bound (t.prs.getD i (0, 0)).2 with
    | false => rw [if_pos (show bi false = 0 from rfl), B178_1, B178_2]; rfl
    | true =>
      rw [if_neg (show ¬ bi true = 0 from by decide), rd_p (by omega) (by omega), rd_p (by omega) (by omega), Int.toNat_natCast, e1, e2, mAlike_e d ok h hlt.1 hlt.2.1 (Tn.bound_ne ba) (Tn.bound_ne bb), bnd_s, h.1.2.2.2.1, h.1.2.2.2.2, in_e, bnd_s]
      unfold Tn.go
      cases decide (t.least ≤ alk (t.code (t.prs.getD i (0, 0)).1) (t.code (t.prs.getD i (0, 0)).2)) && decide (alk (t.code (t.prs.getD i (0, 0)).1) (t.code (t.prs.getD i (0, 0)).2) ≤ t.most) with
      | false => rw [if_pos (show bi false = 0 from rfl), B178_2]; rfl
      | true => rw [if_neg (show ¬ bi true = 0 from by decide), B178_1, B178_2]; rfl
