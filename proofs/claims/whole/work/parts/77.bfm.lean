/-! ===== how a row was before, by the reference ===== -/
def Tn.EX (t : Tn) (L : Int) (v : Nat → Int) (x : Nat) : Int := bif t.any L then (if x < 81 then v x else 0) else (if x = 81 then v 0 else 0)
def Tn.ix (t : Tn) (L : Int) (x : Nat) : Nat := bif t.any L then x else 0
def Tn.pr (t : Tn) (L : Int) (x : Nat) : Bool := t.any L == decide (x < 81)
theorem EX_pr {t : Tn} {L : Int} (v : Nat → Int) {x : Nat} (hx : x ≤ 81) : t.EX L v x = bif t.pr L x then v (t.ix L x) else 0 := by
  unfold Tn.EX Tn.pr Tn.ix
  cases t.any L with
  | true =>
    by_cases q : x < 81
    · rw [decide_eq_true q, cond_true, cond_true, if_pos q]; rfl
    · rw [decide_eq_false q, cond_true, if_neg q]; rfl
  | false =>
    by_cases q : x < 81
    · rw [decide_eq_true q, cond_false, if_neg (by omega)]; rfl
    · rw [decide_eq_false q, cond_false, if_pos (by omega)]; rfl
theorem ix_lt {t : Tn} {L : Int} {x : Nat} (hp : t.pr L x = true) : t.ix L x < t.opt L := by
  unfold Tn.pr at hp
  unfold Tn.ix Tn.opt
  cases q : t.any L with
  | true =>
    rw [q] at hp
    exact of_decide_eq_true (eq_of_beq hp).symm
  | false => exact Nat.zero_lt_one
theorem sm_zero : ∀ n, sm n (fun _ => 0) = 0
  | 0 => rfl
  | n + 1 => by
    show sm n _ + 0 = 0
    rw [sm_zero n]; rfl
theorem sum82 {t : Tn} {L : Int} (g v : Nat → Int) : sm 82 (fun x => g (t.ix L x) * t.EX L v x) = sm (t.opt L) (fun j => g j * v j) := by
  show sm 81 (fun x => g (t.ix L x) * t.EX L v x) + g (t.ix L 81) * t.EX L v 81 = _
  unfold Tn.EX Tn.ix Tn.opt
  cases t.any L with
  | true =>
    simp only [cond_true]
    rw [if_neg (by decide), Int.mul_zero, Int.add_zero]
    exact sm_congr 81 (fun j hj => by rw [if_pos hj])
  | false =>
    simp only [cond_false]
    rw [sm_congr 81 (g := fun _ => 0) (fun j hj => by rw [if_neg (by omega), Int.mul_zero]), sm_zero, if_pos trivial]
    rfl
theorem pr_l (t : Tn) (l : Nat) (x : Nat) : t.pr (l : Int) x = ((t.kind l == -1) == decide (x < 81)) := by
  unfold Tn.pr
  rw [any_l]
theorem allow_e (d : Nat) {t : Tn} {μ : amM} (ok : t.Ok) (h : TM 72 t μ) {l : Nat} (hl : l < t.lots) (x : Nat) : RD cr2 (d + 2) 224 [71, (l : Int), (x : Int)] μ = some (bi (t.pr (l : Int) x), μ) := by
  rw [M224, mEmpty_e _ ok h hl, bnd_s, pr_l]
  by_cases q : x < 81
  · rw [if_pos (by omega), decide_eq_true q, B224_2]
    cases (t.kind l == -1) with
    | true => rw [if_pos (by rfl), B224_4]; rfl
    | false => rw [if_neg (by decide), B224_3, B224_4]; rfl
  · rw [if_neg (by omega), decide_eq_false q, B224_1, B224_2]
    cases (t.kind l == -1) with
    | true => rw [if_neg (by decide), B224_3, B224_4]; rfl
    | false => rw [if_pos (by rfl), B224_4]; rfl
theorem bound_hs {t : Tn} {l : Nat} (h : t.any (l : Int) = false) : t.lk (l : Int) = t.bound l := by
  unfold Tn.lk
  rw [h, Bool.false_or, Int.toNat_natCast]
theorem lk_any {t : Tn} {L : Int} (h : t.any L = true) : t.lk L = true := by
  unfold Tn.lk
  rw [h, Bool.true_or]
theorem pr_t {t : Tn} {L : Int} {x : Nat} (h : t.any L = true) (hp : t.pr L x = true) : x < 81 := by
  unfold Tn.pr at hp
  rw [h] at hp
  exact of_decide_eq_true (eq_of_beq hp).symm
theorem pr_f {t : Tn} {L : Int} {x : Nat} (h : t.any L = false) (hp : t.pr L x = true) : ¬ x < 81 := by
  unfold Tn.pr at hp
  rw [h] at hp
  exact of_decide_eq_false (eq_of_beq hp).symm
theorem ix_t {t : Tn} {L : Int} {x : Nat} (h : t.any L = true) : t.ix L x = x := by
  unfold Tn.ix
  rw [h]; rfl
theorem pass_e (d : Nat) {t : Tn} {μ : amM} (ok : t.Ok) (h : TM 72 t μ) (hg : GO t μ) {a b : Nat} (ha : a < t.lots) (hb : b < t.lots) {x y : Nat} (hx : x ≤ 81) (hy : y ≤ 81) (px : t.pr (a : Int) x = true) (py : t.pr (b : Int) y = true) : RD cr2 (d + 3) 223 [71, (a : Int), (x : Int), (b : Int), (y : Int)] μ = some (bi (t.TT (a : Int) (b : Int) (t.ix (a : Int) x) (t.ix (b : Int) y)), μ) := by
  have h3 : μ 72 3 = t.least := h.1.2.2.2.1
  have h4 : μ 72 4 = t.most := h.1.2.2.2.2
  have i4 : ∀ (c e : Int), RD cr2 (d + 2) 151 [alk c e, μ 72 3, μ 72 4] μ = some (bi (t.go c e), μ) := fun c e => by
    rw [in_e, h3, h4]; rfl
  rw [M223]
  unfold Tn.TT
  cases qa : t.any (a : Int) with
  | false =>
    have hx' := pr_f qa px
    have na : t.kind a ≠ -1 := fun e => by rw [any_l, e] at qa; cases qa
    rw [bound_hs qa, cc_f qa, Int.toNat_natCast, if_pos (by omega)]
    cases qb : t.any (b : Int) with
    | false =>
      have hy' := pr_f qb py
      have nb : t.kind b ≠ -1 := fun e => by rw [any_l, e] at qb; cases qb
      rw [bound_hs qb, cc_f qb, Int.toNat_natCast, if_pos (by omega), mBound_e _ ok h ha, bnd_s]
      cases ba : t.bound a with
      | false => rw [if_pos (by rfl), B223_1, B223_3]; rfl
      | true =>
        rw [if_neg (by decide), mBound_e _ ok h hb, bnd_s]
        cases bb : t.bound b with
        | false => rw [if_pos (by rfl), B223_1, B223_3]; rfl
        | true =>
          rw [if_neg (by decide), mAlike_e _ ok h ha hb na nb, bnd_s, i4, bnd_s]
          cases t.go (t.code a) (t.code b) with
          | true => rw [if_neg (by decide), B223_1, B223_3]; rfl
          | false => rw [if_pos (by rfl), B223_2, B223_3]; rfl
    | true =>
      have hy' := pr_t qb py
      rw [lk_any qb, cc_t qb, ix_t qb, if_neg (by omega), B223_4, if_pos (by omega), mBound_e _ ok h ha, bnd_s]
      cases ba : t.bound a with
      | false => rw [if_pos (by rfl), B223_5, B223_7]; rfl
      | true =>
        rw [if_neg (by decide), mAlikeTo_e _ ok h ha na (show 0 ≤ (y : Int) ∧ (y : Int) < 81 by omega), bnd_s, i4, bnd_s, go_comm]
        cases t.go (t.code a) (hc (y : Int)) with
        | true => rw [if_neg (by decide), B223_5, B223_7]; rfl
        | false => rw [if_pos (by rfl), B223_6, B223_7]; rfl
  | true =>
    have hx' := pr_t qa px
    rw [lk_any qa, cc_t qa, ix_t qa, if_neg (by omega), B223_4, if_neg (by omega), B223_8]
    cases qb : t.any (b : Int) with
    | false =>
      have hy' := pr_f qb py
      have nb : t.kind b ≠ -1 := fun e => by rw [any_l, e] at qb; cases qb
      rw [bound_hs qb, cc_f qb, Int.toNat_natCast, if_pos (by omega), mBound_e _ ok h hb, bnd_s]
      cases bb : t.bound b with
      | false => rw [if_pos (by rfl), B223_9, B223_11]; rfl
      | true =>
        rw [if_neg (by decide), mAlikeTo_e _ ok h hb nb (show 0 ≤ (x : Int) ∧ (x : Int) < 81 by omega), bnd_s, i4, bnd_s]
        cases t.go (hc (x : Int)) (t.code b) with
        | true => rw [if_neg (by decide), B223_9, B223_11]; rfl
        | false => rw [if_pos (by rfl), B223_10, B223_11]; rfl
    | true =>
      have hy' := pr_t qb py
      rw [lk_any qb, cc_t qb, ix_t qb, if_neg (by omega), B223_12, hg.rd hx' hy', show t.G x y = bi (t.go (hc (x : Int)) (hc (y : Int))) from rfl, rb_bi]
      rfl
/-- the row of ways holds these numbers -/
def RV (c : Nat) (t : Tn) (L : Int) (v : Nat → Int) (n : Nat) (μ : amM) : Prop := ∀ x, x < n → μ c x = t.EX L v x
def Bd (t : Tn) (L : Int) (v : Nat → Int) (B : Int) : Prop := ∀ j, j < t.opt L → 0 ≤ v j ∧ v j ≤ B
theorem EX_B {t : Tn} {L : Int} {v : Nat → Int} {B : Int} (hB : 0 ≤ B) (h : Bd t L v B) {x : Nat} (hx : x ≤ 81) : 0 ≤ t.EX L v x ∧ t.EX L v x ≤ B := by
  rw [EX_pr v hx]
  cases q : t.pr L x with
  | true => exact h _ (ix_lt q)
  | false => exact ⟨Int.le_refl _, hB⟩
theorem sm_B {f : Nat → Int} {B : Int} : ∀ n, (∀ j, j < n → 0 ≤ f j ∧ f j ≤ B) → 0 ≤ sm n f ∧ sm n f ≤ (n : Int) * B
  | 0, _ => by
    rw [show ((0 : Nat) : Int) = 0 from rfl, Int.zero_mul]
    exact ⟨Int.le_refl _, Int.le_refl _⟩
  | n + 1, h => by
    have i := sm_B n (fun j hj => h j (by omega))
    have k := h n (by omega)
    have e : ((n + 1 : Nat) : Int) * B = (n : Int) * B + B := by
      rw [Int.natCast_add, Int.add_mul, Int.natCast_one, Int.one_mul]
    show 0 ≤ sm n f + f n ∧ sm n f + f n ≤ _
    omega
theorem cx_B {t : Tn} {L L' : Int} {v : Nat → Int} {B : Int} (hB : 0 ≤ B) (h : Bd t L v B) (i : Nat) : 0 ≤ t.cx L L' v i ∧ t.cx L L' v i ≤ 81 * B := by
  have s := sm_B (f := fun j => bi (t.TT L L' j i) * v j) (B := B) (t.opt L) (fun j hj => by
    have k := h j hj
    cases t.TT L L' j i with
    | true =>
      rw [show bi true = 1 from rfl, Int.one_mul]
      exact k
    | false =>
      rw [show bi false = 0 from rfl, Int.zero_mul]
      exact ⟨Int.le_refl _, hB⟩)
  have o := (opt_81 t L).1
  have m : ((t.opt L : Nat) : Int) * B ≤ 81 * B := Int.mul_le_mul_of_nonneg_right (by omega) hB
  exact ⟨s.1, Int.le_trans s.2 m⟩
theorem w64_b {x : Int} (h1 : 0 ≤ x) (h2 : x < 9223372036854775808) : w64 x = x := w64_id ⟨by omega, by omega⟩
theorem sgn_0 : ¬ (0 : Int) < (if (0 : Int) < 0 then (-1) else if (0 : Int) = 0 then 0 else 1) := by decide
theorem sgn_p {x : Int} (h : 0 ≤ x) (h2 : x ≠ 0) : (0 : Int) < (if x < 0 then (-1) else if x = 0 then 0 else 1) := by
  rw [if_neg (by omega), if_neg h2]; decide
