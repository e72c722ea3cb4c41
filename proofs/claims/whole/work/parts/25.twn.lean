/-! ===== a town, as class and reference both have it; the class's methods that write nothing ===== -/
def Tn : Type := Nat × Nat × Nat × Int × Int × (Nat → Int) × (Nat → Int) × (Nat → Int)
def Tn.rows (t : Tn) : Nat := t.1
def Tn.cols (t : Tn) : Nat := t.2.1
def Tn.shape (t : Tn) : Nat := t.2.2.1
def Tn.least (t : Tn) : Int := t.2.2.2.1
def Tn.most (t : Tn) : Int := t.2.2.2.2.1
def Tn.kind (t : Tn) : Nat → Int := t.2.2.2.2.2.1
def Tn.m (t : Tn) : Nat → Int := t.2.2.2.2.2.2.1
def Tn.code (t : Tn) : Nat → Int := t.2.2.2.2.2.2.2
def Tn.lots (t : Tn) : Nat := t.rows * t.cols
/-- the pairs of lots side by side, in the reference's order -/
def prsAt (r c s lot : Nat) : List (Nat × Nat) :=
  (if lot % c + 1 < c then [(lot, lot + 1)] else []) ++ (if 0 < s ∧ 2 < c ∧ lot % c = 0 then [(lot, lot + c - 1)] else []) ++
  (if lot + c < r * c then [(lot, lot + c)] else []) ++ (if s = 2 ∧ 2 < r ∧ lot < c then [(lot, lot + (r - 1) * c)] else [])
def prs (r c s : Nat) : List (Nat × Nat) := (List.range (r * c)).flatMap (prsAt r c s)
/-- the lots side by side with one, the least first -/
def nbs (r c s lot : Nat) : List Nat :=
  (if s = 2 ∧ 2 < r ∧ lot / c + 1 = r then [lot % c] else []) ++ (if c ≤ lot then [lot - c] else []) ++ (if 0 < s ∧ 2 < c ∧ lot % c + 1 = c then [lot + 1 - c] else []) ++ (if 0 < lot % c then [lot - 1] else []) ++
  (if lot % c + 1 < c then [lot + 1] else []) ++ (if 0 < s ∧ 2 < c ∧ lot % c = 0 then [lot + c - 1] else []) ++ (if lot + c < r * c then [lot + c] else []) ++ (if s = 2 ∧ 2 < r ∧ lot < c then [lot + (r - 1) * c] else [])
def Tn.nb (t : Tn) (lot : Nat) : List Nat := nbs t.rows t.cols t.shape lot
def Tn.prs (t : Tn) : List (Nat × Nat) := _root_.Jvm.Pilot.@@N@@.prs t.rows t.cols t.shape
def Tn.bound (t : Tn) (lot : Nat) : Bool := !(t.kind lot == -1) && !(t.kind lot == 5)
def Tn.go (t : Tn) (a b : Int) : Bool := decide (t.least ≤ alk a b) && decide (alk a b ≤ t.most)
def Tn.wrong (t : Tn) (a b : Nat) : Bool := t.bound a && t.bound b && !t.go (t.code a) (t.code b)
def Tn.may (t : Tn) (lot : Nat) (c : Int) : Bool := (t.nb lot).all (fun o => !t.bound o || t.go c (t.code o))
def bi (b : Bool) : Int := if b then 1 else 0
theorem bi_0 {b : Bool} : bi b = 0 ↔ b = false := by cases b <;> simp [bi]
theorem rb_bi (b : Bool) (μ : amM) : rb (bi b) μ = some (bi b, μ) := by cases b <;> rfl
/-- what is true of every town -/
def Tn.Ok (t : Tn) : Prop := (1 ≤ t.rows ∧ t.rows ≤ 8 ∧ 1 ≤ t.cols ∧ t.cols ≤ 8 ∧ t.shape ≤ 2 ∧ 0 ≤ t.least ∧ t.least ≤ t.most ∧ t.most ≤ 4) ∧
  ∀ lot, lot < t.lots → (-1 ≤ t.kind lot ∧ t.kind lot ≤ 6) ∧ (t.kind lot ≠ -1 → 0 ≤ t.m lot ∧ t.m lot ≤ 9 ∧ 0 ≤ t.code lot ∧ t.code lot < 256)
/-- the class holds a town, in the cells from b on (2: the town, 20: the kept one) -/
def TC (b : Nat) (t : Tn) (μ : amM) : Prop :=
  (μ b 7 = t.rows ∧ μ b 8 = t.cols ∧ μ b 9 = t.shape ∧ μ b 10 = t.lots ∧ μ b 11 = t.least ∧ μ b 12 = t.most) ∧
  (∀ lot, lot < t.lots → μ (b + 1) lot = t.kind lot ∧ (t.kind lot ≠ -1 → μ (b + 2) lot = t.m lot ∧ μ (b + 3) lot = t.code lot)) ∧
  (∀ lot, lot < t.lots → μ (b + 5) lot = (t.nb lot).length ∧ ∀ i, i < (t.nb lot).length → μ (b + 4) (4 * lot + i) = ((t.nb lot).getD i 0 : Nat))
theorem Tn.Ok.le {t : Tn} (h : t.Ok) : 1 ≤ t.lots ∧ t.lots ≤ 64 := by
  obtain ⟨⟨h1, h2, h3, h4, -⟩, -⟩ := h
  unfold Tn.lots
  exact ⟨Nat.mul_le_mul h1 h3, Nat.mul_le_mul h2 h4⟩
/-- what holds of all lots of all kinds of towns -/
theorem lay_all {P : Nat → Nat → Nat → Nat → Bool} (h : ((List.range 8).all fun r => (List.range 8).all fun c => (List.range 3).all fun s => (List.range ((r + 1) * (c + 1))).all fun lot => P (r + 1) (c + 1) s lot) = true) {t : Tn} (ok : t.Ok) {lot : Nat} (hl : lot < t.lots) : P t.rows t.cols t.shape lot = true := by
  obtain ⟨⟨h1, h2, h3, h4, h5, -⟩, -⟩ := ok
  have hl : lot < t.rows * t.cols := hl
  have q := List.all_eq_true.mp (List.all_eq_true.mp (List.all_eq_true.mp h (t.rows - 1) (List.mem_range.mpr (by omega))) (t.cols - 1) (List.mem_range.mpr (by omega))) t.shape (List.mem_range.mpr (by omega))
  rw [show t.rows - 1 + 1 = t.rows by omega, show t.cols - 1 + 1 = t.cols by omega] at q
  exact List.all_eq_true.mp q lot (List.mem_range.mpr hl)
set_option maxRecDepth 100000 in
theorem nbs_n : ((List.range 8).all fun r => (List.range 8).all fun c => (List.range 3).all fun s => (List.range ((r + 1) * (c + 1))).all fun lot => decide ((nbs (r + 1) (c + 1) s lot).length ≤ 4) && (nbs (r + 1) (c + 1) s lot).all (fun o => decide (o < (r + 1) * (c + 1)) && decide (o ≠ lot))) = true := by decide +kernel
theorem Tn.Ok.nbs {t : Tn} (h : t.Ok) {lot : Nat} (hl : lot < t.lots) : (t.nb lot).length ≤ 4 ∧ ∀ o ∈ t.nb lot, o < t.lots ∧ o ≠ lot := by
  have q := lay_all (P := fun r c s lot => decide ((_root_.Jvm.Pilot.@@N@@.nbs r c s lot).length ≤ 4) && (_root_.Jvm.Pilot.@@N@@.nbs r c s lot).all (fun o => decide (o < r * c) && decide (o ≠ lot))) nbs_n h hl
  rw [Bool.and_eq_true] at q
  refine ⟨of_decide_eq_true q.1, fun o ho => ?_⟩
  have q2 := List.all_eq_true.mp q.2 o ho
  rw [Bool.and_eq_true] at q2
  exact ⟨of_decide_eq_true q2.1, of_decide_eq_true q2.2⟩
theorem isWithin_e (d : Nat) (x a b : Int) (μ : amM) : RD cr2 (d + 1) 142 [x, a, b] μ = some (bi (decide (a ≤ x) && decide (x ≤ b)), μ) := by
  rw [M142]
  by_cases h1 : x < a
  · rw [if_pos h1, B142_1, B142_2, show decide (a ≤ x) = false from decide_eq_false (by omega)]; rfl
  · rw [if_neg h1, show decide (a ≤ x) = true from decide_eq_true (by omega)]
    by_cases h2 : b < x
    · rw [if_pos h2, B142_1, B142_2, show decide (x ≤ b) = false from decide_eq_false (by omega)]; rfl
    · rw [if_neg h2, B142_2, show decide (x ≤ b) = true from decide_eq_true (by omega)]; rfl
theorem isBound_e (d : Nat) {t : Tn} {μ : amM} (ok : t.Ok) (h : TC 2 t μ) {lot : Nat} (hl : lot < t.lots) : RD cr2 (d + 1) 70 [2, (lot : Int)] μ = some (bi (t.bound lot), μ) := by
  have h64 := ok.le.2
  have e := (h.2.1 lot hl).1
  rw [M70, rd_p (by omega) (by omega), Int.toNat_natCast, e]
  unfold Tn.bound
  by_cases h1 : t.kind lot = -1
  · rw [if_pos h1, B70_1, B70_2, h1]; rfl
  · rw [if_neg h1, rd_p (by omega) (by omega), Int.toNat_natCast, e]
    by_cases h2 : t.kind lot = 5
    · rw [if_pos h2, B70_1, B70_2, h2]; rfl
    · rw [if_neg h2, B70_2, beq_false_of_ne h1, beq_false_of_ne h2]; rfl
theorem doGo_e (d : Nat) {t : Tn} {μ : amM} (h : TC 2 t μ) {a b : Int} (h1 : 0 ≤ a ∧ a < 256) (h2 : 0 ≤ b ∧ b < 256) : RD cr2 (d + 3) 72 [2, a, b] μ = some (bi (t.go a b), μ) := by
  obtain ⟨⟨-, -, -, -, e1, e2⟩, -⟩ := h
  rw [M72, alikeOf_e d μ h1 h2, bnd_s, e1, e2]
  unfold Tn.go
  by_cases h1 : alk a b < t.least
  · rw [if_pos h1, B72_1, B72_2, show decide (t.least ≤ alk a b) = false from decide_eq_false (by omega)]; rfl
  · rw [if_neg h1, show decide (t.least ≤ alk a b) = true from decide_eq_true (by omega)]
    by_cases h2 : t.most < alk a b
    · rw [if_pos h2, B72_1, B72_2, show decide (alk a b ≤ t.most) = false from decide_eq_false (by omega)]; rfl
    · rw [if_neg h2, B72_2, show decide (alk a b ≤ t.most) = true from decide_eq_true (by omega)]; rfl
theorem Tn.bound_ne {t : Tn} {lot : Nat} (h : t.bound lot = true) : t.kind lot ≠ -1 := by
  intro e
  unfold Tn.bound at h
  rw [e] at h
  cases h
theorem isWrong_e (d : Nat) {t : Tn} {μ : amM} (ok : t.Ok) (h : TC 2 t μ) {a b : Nat} (ha : a < t.lots) (hb : b < t.lots) : RD cr2 (d + 4) 73 [2, (a : Int), (b : Int)] μ = some (bi (t.wrong a b), μ) := by
  have h64 := ok.le.2
  rw [M73, isBound_e (d + 2) ok h ha, bnd_s]
  unfold Tn.wrong
  cases ba : t.bound a with
  | false => rw [if_pos (show bi false = 0 from rfl), B73_1, B73_2]; rfl
  | true =>
    rw [if_neg (show ¬ bi true = 0 from by decide), isBound_e (d + 2) ok h hb, bnd_s]
    cases bb : t.bound b with
    | false => rw [if_pos (show bi false = 0 from rfl), B73_1, B73_2]; rfl
    | true =>
      have na := Tn.bound_ne ba
      have nb := Tn.bound_ne bb
      rw [if_neg (show ¬ bi true = 0 from by decide), rd_p (by omega) (by omega), rd_p (by omega) (by omega), Int.toNat_natCast, Int.toNat_natCast, ((h.2.1 a ha).2 na).2, ((h.2.1 b hb).2 nb).2, doGo_e d h ((ok.2 a ha).2 na).2.2 ((ok.2 b hb).2 nb).2.2, bnd_s]
      cases t.go (t.code a) (t.code b) with
      | false => rw [if_pos (show bi false = 0 from rfl), B73_2]; rfl
      | true => rw [if_neg (show ¬ bi true = 0 from by decide), B73_1, B73_2]; rfl
