theorem mk_hc {h : Int} (h1 : 0 ≤ h ∧ h < 81) : mk (hc h) 0 = h / 27 ∧ mk (hc h) 1 = h / 9 % 3 ∧ mk (hc h) 2 = h / 3 % 3 ∧ mk (hc h) 3 = h % 3 := by
  obtain ⟨h, rfl⟩ := Int.eq_ofNat_of_zero_le h1.1
  exact of_decide_eq_true (List.all_eq_true.mp mk_hc_n h (List.mem_range.mpr (by omega)))
theorem al1_hc {h c : Int} (h1 : 0 ≤ h ∧ h < 81) {k : Nat} (hk : k < 4) : al1 (hc h) c k = if mk c k = mk (hc h) k then 1 else 0 := by
  have q := mk_hc h1
  have hlt : mk (hc h) k < 3 := by
    match k, hk with
    | 0, _ => rw [q.1]; omega
    | 1, _ => rw [q.2.1]; omega
    | 2, _ => rw [q.2.2.1]; omega
    | 3, _ => rw [q.2.2.2]; omega
  unfold al1
  by_cases e : mk c k = mk (hc h) k
  · rw [if_pos ⟨hlt, e.symm⟩, if_pos e]
  · rw [if_neg (fun w => e w.2.symm), if_neg e]
theorem mAlikeTo_e (d : Nat) {t : Tn} {μ : amM} (ok : t.Ok) (h : TM 72 t μ) {a : Nat} (ha : a < t.lots) (na : t.kind a ≠ -1) {x : Int} (hx : 0 ≤ x ∧ x < 81) : RD cr2 (d + 2) 202 [71, (a : Int), x] μ = some (alk (hc x) (t.code a), μ) := by
  have step : ∀ (k : Nat) (n y : Int), k < 4 → 0 ≤ n → n < 100 → 0 ≤ y → y < 81 → y % 3 = mk (hc x) k → At cr2 (d + 1) 202 1 [] [71, (a : Int), 0, n, y, (k : Int)] μ = At cr2 (d + 1) 202 1 [] [71, (a : Int), 0, n + al1 (hc x) (t.code a) k, y / 3, (k : Int) - 1] μ := by
    intro k n y hk h0 h1 h2 h3 h4
    have hm := mMark_e d ok h ha hk na
    have e : y.tmod 3 = y % 3 := Int.tmod_eq_emod_of_nonneg h2
    have e2 : y.tdiv 3 = y / 3 := Int.tdiv_eq_ediv_of_nonneg h2
    rw [B202_1, if_neg (by omega), hm, bnd_s, e, h4, al1_hc hx hk]
    by_cases c1 : mk (t.code a) k = mk (hc x) k
    · rw [if_pos c1, B202_3, if_pos c1, e2, w32_i (x := n + 1) (by omega) (by omega), w32_i (x := y / 3) (by omega) (by omega), w32_i (by omega) (by omega)]
      rfl
    · rw [if_neg c1, B202_2, B202_3, if_neg c1, e2, w32_i (x := n + 0) (by omega) (by omega), w32_i (x := y / 3) (by omega) (by omega), w32_i (by omega) (by omega)]
      rfl
  have q := mk_hc hx
  have g0 := al1_01 (hc x) (t.code a) 0
  have g1 := al1_01 (hc x) (t.code a) 1
  have g2 := al1_01 (hc x) (t.code a) 2
  have g3 := al1_01 (hc x) (t.code a) 3
  have s3 := step 3 0 x (by decide) (by decide) (by decide) hx.1 hx.2 (by rw [q.2.2.2])
  have s2 := step 2 (0 + al1 (hc x) (t.code a) 3) (x / 3) (by decide) (by omega) (by omega) (by omega) (by omega) (by rw [q.2.2.1])
  have s1 := step 1 (0 + al1 (hc x) (t.code a) 3 + al1 (hc x) (t.code a) 2) (x / 3 / 3) (by decide) (by omega) (by omega) (by omega) (by omega) (by rw [q.2.1]; omega)
  have s0 := step 0 (0 + al1 (hc x) (t.code a) 3 + al1 (hc x) (t.code a) 2 + al1 (hc x) (t.code a) 1) (x / 3 / 3 / 3) (by decide) (by omega) (by omega) (by omega) (by omega) (by rw [q.1]; omega)
  rw [M202]
  refine s3.trans (s2.trans (s1.trans (s0.trans ?_)))
  rw [B202_1, if_pos (by omega), B202_4]
  unfold alk
  congr 2
  omega
/-- whether a house goes with what is at a pair's other end -/
def Tn.fq (t : Tn) (lot : Nat) (c : Int) (p : Nat × Nat) : Bool := if p.1 = lot then (!t.bound p.2 || t.go c (t.code p.2)) else if p.2 = lot then (!t.bound p.1 || t.go c (t.code p.1)) else true
theorem fits_loop (d : Nat) {t : Tn} {μ : amM} (ok : t.Ok) (h : TM 72 t μ) (hp : PF t.prs μ) (lot : Nat) {x : Int} (hx : 0 ≤ x ∧ x < 81) : ∀ (n i : Nat) (b : Bool), i + n = t.prs.length → At cr2 (d + 2) 201 1 [] [71, (lot : Int), x, bi b, (i : Int), 0] μ = some (bi (b && (t.prs.drop i).all (t.fq lot (hc x))), μ)
  | 0, i, b, hi => by
    have h128 := ok.prs
    rw [B201_1, hp.1, if_neg (by omega), B201_6, rb_bi, List.drop_eq_nil_of_le (by omega)]
    cases b <;> rfl
  | n + 1, i, b, hi => by
    have h128 := ok.prs
    have hil : i < t.prs.length := by omega
    have hlt := ok.prs_lt _ (getD_mem (0, 0) hil)
    obtain ⟨e1, e2⟩ := hp.at hil
    have ih := fun b => fits_loop d ok h hp lot hx n (i + 1) b (by omega)
    rw [drop_getD (0, 0) hil, List.all_cons]
    have five : ∀ b : Bool, At cr2 (d + 2) 201 5 [] [71, (lot : Int), x, bi b, (i : Int), 0] μ = some (bi (b && (t.prs.drop (i + 1)).all (t.fq lot (hc x))), μ) := fun b => by
      rw [B201_5, w32_i (by omega) (by omega)]
      exact ih b
    have four : ∀ o : Nat, o < t.lots → At cr2 (d + 2) 201 4 [(o : Int)] [71, (lot : Int), x, bi true, (i : Int), 0] μ = some (bi ((!t.bound o || t.go (hc x) (t.code o)) && (t.prs.drop (i + 1)).all (t.fq lot (hc x))), μ) := fun o ho => by
      rw [B201_4, if_neg (by omega), mBound_e d ok h ho, bnd_s]
      cases bo : t.bound o with
      | false => rw [if_pos (show bi false = 0 from rfl)]; exact five true
      | true =>
        rw [if_neg (show ¬ bi true = 0 from by decide), mAlikeTo_e d ok h ho (Tn.bound_ne bo) hx, bnd_s, h.1.2.2.2.1, h.1.2.2.2.2, in_e, bnd_s]
        exact five _
    rw [B201_1, hp.1, if_pos (by omega)]
    cases b with
    | false =>
      rw [if_pos (show bi false = 0 from rfl), B201_6, rb_bi]
      rfl
    | true =>
      rw [if_neg (show ¬ bi true = 0 from by decide), rd_p (by omega) (by omega), Int.toNat_natCast, e1]
      unfold Tn.fq at four five ⊢
      by_cases q1 : (t.prs.getD i (0, 0)).1 = lot
      · rw [if_pos (by omega), rd_p (by omega) (by omega), Int.toNat_natCast, e2, four _ hlt.2.1, if_pos q1]
        rfl
      · rw [if_neg (by omega), B201_2, rd_p (by omega) (by omega), Int.toNat_natCast, e2, if_neg q1]
        by_cases q2 : (t.prs.getD i (0, 0)).2 = lot
        · rw [if_pos (by omega), rd_p (by omega) (by omega), Int.toNat_natCast, e1, four _ hlt.1, if_pos q2]
          rfl
        · rw [if_neg (by omega), B201_3, B201_4, if_pos (by decide), if_neg q2]
          exact five true
theorem Tn.Ok.fq_all {t : Tn} (ok : t.Ok) {lot : Nat} (hl : lot < t.lots) (c : Int) : t.prs.all (t.fq lot c) = t.may lot c := by
  apply Bool.eq_iff_iff.mpr
  unfold Tn.may
  rw [List.all_eq_true, List.all_eq_true]
  constructor
  · intro h o ho
    obtain ⟨p, hp, hq⟩ := oth_mem.mp ((ok.oth hl).mem_iff.mpr ho)
    have h2 := h p hp
    unfold Tn.fq at h2
    rcases hq with ⟨q1, q2⟩ | ⟨q1, q2, q3⟩
    · rw [if_pos q1, q2] at h2
      exact h2
    · rw [if_neg q1, if_pos q2, q3] at h2
      exact h2
  · intro h p hp
    unfold Tn.fq
    by_cases q1 : p.1 = lot
    · rw [if_pos q1]
      exact h p.2 ((ok.oth hl).mem_iff.mp (oth_mem.mpr ⟨p, hp, Or.inl ⟨q1, rfl⟩⟩))
    · rw [if_neg q1]
      by_cases q2 : p.2 = lot
      · rw [if_pos q2]
        exact h p.1 ((ok.oth hl).mem_iff.mp (oth_mem.mpr ⟨p, hp, Or.inr ⟨q1, q2, rfl⟩⟩))
      · rw [if_neg q2]
theorem fits_e (d : Nat) {t : Tn} {μ : amM} (ok : t.Ok) (h : TM 72 t μ) (hp : PF t.prs μ) {lot : Nat} (hl : lot < t.lots) {x : Int} (hx : 0 ≤ x ∧ x < 81) : RD cr2 (d + 3) 201 [71, (lot : Int), x] μ = some (bi (t.may lot (hc x)), μ) := by
  have h1 := fits_loop d ok h hp lot hx _ 0 true (Nat.zero_add _)
  rw [List.drop_zero, ok.fq_all hl, Bool.true_and] at h1
  rw [M201]
  exact h1
theorem mHow_loop (d : Nat) {t : Tn} {μ : amM} (ok : t.Ok) (h : TM 72 t μ) (hp : PF t.prs μ) {lot : Nat} (hl : lot < t.lots) : ∀ n i, i + n = 81 → At cr2 (d + 3) 203 1 [] [71, (lot : Int), (cntB (fun x => t.may lot (hc x)) i : Int), (i : Int)] μ = some ((cntB (fun x => t.may lot (hc x)) 81 : Int), μ)
  | 0, i, hi => by
    have hi : i = 81 := by omega
    subst hi
    rw [B203_1, if_neg (by omega), B203_4]
  | n + 1, i, hi => by
    have hle := cntB_le (fun x => t.may lot (hc x)) i
    have ih := mHow_loop d ok h hp hl n (i + 1) (by omega)
    rw [cntB_succ] at ih
    rw [B203_1, if_pos (by omega), fits_e d ok h hp hl (by omega), bnd_s]
    cases hb : t.may lot (hc (i : Int)) with
    | false =>
      rw [if_pos (show bi false = 0 from rfl), B203_2, B203_3, w32_i (x := _ + 0) (by omega) (by omega), w32_i (by omega) (by omega)]
      simp only [hb] at ih
      exact ih
    | true =>
      rw [if_neg (show ¬ bi true = 0 from by decide), B203_3, w32_i (x := _ + 1) (by omega) (by omega), w32_i (x := _ + 1) (by omega) (by omega)]
      simp only [hb] at ih
      exact ih
theorem mHowMany_e (d : Nat) {t : Tn} {μ : amM} (ok : t.Ok) (h : TM 72 t μ) (hp : PF t.prs μ) {lot : Nat} (hl : lot < t.lots) : RD cr2 (d + 4) 203 [71, (lot : Int)] μ = some ((cntB (fun x => t.may lot (hc x)) 81 : Int), μ) := by
  rw [M203]
  exact mHow_loop d ok h hp hl 81 0 rfl
