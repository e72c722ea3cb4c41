def Tn.rq (t : Tn) (lot : Nat) (p : Nat × Nat) : Bool := (!(p.1 == lot) && !(p.2 == lot)) || !t.wrong p.1 p.2
theorem mRight_loop (d : Nat) {t : Tn} {μ : amM} (ok : t.Ok) (h : TM 72 t μ) (hp : PF t.prs μ) (lot : Nat) : ∀ (n i : Nat) (b : Bool), i + n = t.prs.length → At cr2 (d + 3) 179 1 [] [71, (lot : Int), bi b, (i : Int)] μ = some (bi (b && (t.prs.drop i).all (t.rq lot)), μ)
  | 0, i, b, hi => by
    have h128 := ok.prs
    rw [B179_1, hp.1, if_neg (by omega), B179_6, rb_bi, List.drop_eq_nil_of_le (by omega)]
    cases b <;> rfl
  | n + 1, i, b, hi => by
    have h128 := ok.prs
    have hil : i < t.prs.length := by omega
    obtain ⟨e1, e2⟩ := hp.at hil
    have ih := fun b => mRight_loop d ok h hp lot n (i + 1) b (by omega)
    rw [drop_getD (0, 0) hil, List.all_cons]
    have five : ∀ b : Bool, At cr2 (d + 3) 179 5 [bi b] [71, (lot : Int), 0, (i : Int)] μ = some (bi (b && (t.prs.drop (i + 1)).all (t.rq lot)), μ) := fun b => by
      rw [B179_5, w32_i (by omega) (by omega)]
      exact ih b
    have four := five false
    have three := five true
    rw [B179_1, hp.1, if_pos (by omega)]
    cases b with
    | false =>
      rw [if_pos (show bi false = 0 from rfl), B179_4]
      exact four
    | true =>
      have two : At cr2 (d + 3) 179 2 [] [71, (lot : Int), 0, (i : Int)] μ = some (bi ((!t.wrong (t.prs.getD i (0, 0)).1 (t.prs.getD i (0, 0)).2) && (t.prs.drop (i + 1)).all (t.rq lot)), μ) := by
        rw [B179_2, mPairWrong_e d ok h hp hil, bnd_s]
        cases t.wrong (t.prs.getD i (0, 0)).1 (t.prs.getD i (0, 0)).2 with
        | false => rw [if_pos (show bi false = 0 from rfl), B179_3]; exact three
        | true => rw [if_neg (show ¬ bi true = 0 from by decide), B179_4]; exact four
      rw [if_neg (show ¬ bi true = 0 from by decide), rd_p (by omega) (by omega), Int.toNat_natCast, e1]
      unfold Tn.rq at two three ⊢
      by_cases q1 : (t.prs.getD i (0, 0)).1 = lot
      · rw [if_pos (by omega), two, beq_iff_eq.mpr q1]
        rfl
      · rw [if_neg (by omega), rd_p (by omega) (by omega), Int.toNat_natCast, e2, beq_false_of_ne q1]
        by_cases q2 : (t.prs.getD i (0, 0)).2 = lot
        · rw [if_pos (by omega), two, beq_iff_eq.mpr q2]
          rfl
        · rw [if_neg (by omega), B179_3, beq_false_of_ne q2]
          exact three
theorem Tn.wrong_comm (t : Tn) (a b : Nat) : t.wrong a b = t.wrong b a := by
  have e : ∀ x y, alk x y = alk y x := fun x y => by
    unfold alk al1
    have : ∀ k, (if mk x k < 3 ∧ mk x k = mk y k then (1 : Int) else 0) = if mk y k < 3 ∧ mk y k = mk x k then 1 else 0 := fun k => by
      by_cases q : mk x k = mk y k
      · rw [q]
      · rw [if_neg (fun w => q w.2), if_neg (fun w => q w.2.symm)]
    rw [this, this, this, this]
  unfold Tn.wrong Tn.go
  rw [e (t.code a) (t.code b), Bool.and_comm (t.bound a)]
theorem oth_mem {l : List (Nat × Nat)} {lot o : Nat} : o ∈ oth l lot ↔ ∃ p ∈ l, (p.1 = lot ∧ p.2 = o) ∨ (p.1 ≠ lot ∧ p.2 = lot ∧ p.1 = o) := by
  unfold oth
  rw [List.mem_filterMap]
  constructor
  · rintro ⟨p, hp, h⟩
    refine ⟨p, hp, ?_⟩
    by_cases q1 : p.1 = lot
    · rw [if_pos q1] at h
      exact Or.inl ⟨q1, Option.some.inj h⟩
    · rw [if_neg q1] at h
      by_cases q2 : p.2 = lot
      · rw [if_pos q2] at h
        exact Or.inr ⟨q1, q2, Option.some.inj h⟩
      · rw [if_neg q2] at h
        cases h
  · rintro ⟨p, hp, h⟩
    refine ⟨p, hp, ?_⟩
    rcases h with ⟨q1, q2⟩ | ⟨q1, q2, q3⟩
    · rw [if_pos q1, q2]
    · rw [if_neg q1, if_pos q2, q3]
/-- all pairs of a lot are right: none of its sides is wrong with it -/
theorem Tn.Ok.rq_all {t : Tn} (ok : t.Ok) {lot : Nat} (hl : lot < t.lots) : t.prs.all (t.rq lot) = (t.nb lot).all (fun o => !t.wrong lot o) := by
  apply Bool.eq_iff_iff.mpr
  rw [List.all_eq_true, List.all_eq_true]
  constructor
  · intro h o ho
    obtain ⟨p, hp, hq⟩ := oth_mem.mp ((ok.oth hl).mem_iff.mpr ho)
    have h2 := h p hp
    unfold Tn.rq at h2
    rcases hq with ⟨q1, q2⟩ | ⟨q1, q2, q3⟩
    · rw [q1, q2, beq_self_eq_true] at h2
      simpa using h2
    · rw [q2, q3, beq_self_eq_true, Tn.wrong_comm] at h2
      simpa using h2
  · intro h p hp
    unfold Tn.rq
    by_cases q1 : p.1 = lot
    · have := h p.2 ((ok.oth hl).mem_iff.mp (oth_mem.mpr ⟨p, hp, Or.inl ⟨q1, rfl⟩⟩))
      rw [q1, this, Bool.or_true]
    · by_cases q2 : p.2 = lot
      · have := h p.1 ((ok.oth hl).mem_iff.mp (oth_mem.mpr ⟨p, hp, Or.inr ⟨q1, q2, rfl⟩⟩))
        rw [q2, Tn.wrong_comm, this, Bool.or_true]
      · rw [beq_false_of_ne q1, beq_false_of_ne q2]; rfl
theorem mRight_e (d : Nat) {t : Tn} {μ : amM} (ok : t.Ok) (h : TM 72 t μ) (hp : PF t.prs μ) {lot : Nat} (hl : lot < t.lots) : RD cr2 (d + 4) 179 [71, (lot : Int)] μ = some (bi ((t.nb lot).all (fun o => !t.wrong lot o)), μ) := by
  have h1 := mRight_loop d ok h hp lot _ 0 true (Nat.zero_add _)
  rw [List.drop_zero, ok.rq_all hl, Bool.true_and] at h1
  rw [M179]
  exact h1
