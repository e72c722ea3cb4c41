/-! ===== the class lays its lots ===== -/
def insAt {α : Type} : Nat → α → List α → List α
  | 0, o, l => o :: l
  | _ + 1, o, [] => [o]
  | p + 1, o, a :: l => a :: insAt p o l
theorem insAt_len {α : Type} (o : α) : ∀ (p : Nat) (l : List α), (insAt p o l).length = l.length + 1
  | 0, _ => rfl
  | _ + 1, [] => rfl
  | p + 1, a :: l => by
    show (insAt p o l).length + 1 = _
    rw [insAt_len o p l]; rfl
theorem insAt_get {α : Type} (o z : α) : ∀ (p : Nat) (l : List α) (i : Nat), p ≤ l.length → (insAt p o l).getD i z = if i < p then l.getD i z else if i = p then o else l.getD (i - 1) z
  | 0, l, 0, _ => rfl
  | 0, l, i + 1, _ => rfl
  | p + 1, [], i, h => absurd h (by rw [List.length_nil]; omega)
  | p + 1, a :: l, 0, _ => by rw [if_pos (by omega)]; rfl
  | p + 1, a :: l, i + 1, h => by
    have ih := insAt_get o z p l i (by rw [List.length_cons] at h; omega)
    show (insAt p o l).getD i z = _
    rw [ih]
    by_cases q : i < p
    · rw [if_pos q, if_pos (show i + 1 < p + 1 by omega)]; rfl
    · rw [if_neg q, if_neg (show ¬ i + 1 < p + 1 by omega)]
      by_cases q2 : i = p
      · rw [if_pos q2, if_pos (show i + 1 = p + 1 by omega)]
      · rw [if_neg q2, if_neg (show ¬ i + 1 = p + 1 by omega)]
        obtain ⟨j, rfl⟩ := Nat.exists_eq_succ_of_ne_zero (show i ≠ 0 by omega)
        rfl
def insP (l : List Nat) (o : Nat) : Nat → Nat
  | 0 => 0
  | n + 1 => if o < l.getD n 0 then insP l o n else n + 1
theorem insP_le (l : List Nat) (o : Nat) : ∀ n, insP l o n ≤ n
  | 0 => Nat.le_refl _
  | n + 1 => by
    unfold insP
    by_cases q : o < l.getD n 0
    · rw [if_pos q]; exact Nat.le_succ_of_le (insP_le l o n)
    · rw [if_neg q]; exact Nat.le_refl _
def addS (l : List Nat) (o : Nat) : List Nat := if l.length < 4 then insAt (insP l o l.length) o l else l
theorem addS_le (l : List Nat) (o : Nat) (h : l.length ≤ 4) : (addS l o).length ≤ 4 := by
  unfold addS
  by_cases q : l.length < 4
  · rw [if_pos q, insAt_len]; exact q
  · rw [if_neg q]; exact h
def adj (J : List (Nat × Nat)) (lot : Nat) : List Nat := J.filterMap (fun p => if p.1 = lot then some p.2 else none)
def fsJ (J : List (Nat × Nat)) (lot : Nat) : List Nat := (adj J lot).foldl addS []
theorem fsJ_le (J : List (Nat × Nat)) (lot : Nat) : (fsJ J lot).length ≤ 4 := by
  unfold fsJ
  have : ∀ (l : List Nat) (a : List Nat), a.length ≤ 4 → (l.foldl addS a).length ≤ 4 := fun l => by
    induction l with
    | nil => exact fun a h => h
    | cons x l ih => exact fun a h => ih _ (addS_le a x h)
  exact this _ _ (Nat.zero_le _)
theorem fsJ_add (J : List (Nat × Nat)) (a b lot : Nat) : fsJ (J ++ [(a, b)]) lot = if lot = a then addS (fsJ J lot) b else fsJ J lot := by
  unfold fsJ adj
  rw [List.filterMap_append, List.foldl_append]
  by_cases q : lot = a
  · rw [if_pos q]
    subst q
    simp
  · rw [if_neg q]
    simp [show ¬ a = lot from fun w => q w.symm]
def jnA (r c s lot : Nat) : List (Nat × Nat) :=
  if lot % c + 1 < c then [(lot, lot + 1), (lot + 1, lot)] else if 0 < s ∧ 2 < c then [(lot, lot - lot % c), (lot - lot % c, lot)] else []
def jnB (r c s lot : Nat) : List (Nat × Nat) :=
  if lot / c + 1 < r then [(lot, lot + c), (lot + c, lot)] else if s = 2 ∧ 2 < r then [(lot, lot % c), (lot % c, lot)] else []
def jn (r c s lot : Nat) : List (Nat × Nat) := jnA r c s lot ++ jnB r c s lot
def jnL (r c s n : Nat) : List (Nat × Nat) := (List.range n).flatMap (jn r c s)
/-- what is asked of the references that a town holds -/
def LH (cr : amC) (b : Nat) (μ : amM) : Prop := amCt cr μ b 0 = ((b + 1 : Nat) : Int) ∧ amCt cr μ b 3 = ((b + 4 : Nat) : Int) ∧ amCt cr μ b 4 = ((b + 5 : Nat) : Int) ∧ ∀ k, 7 ≤ k → cr b k = none
def isTw (b : Nat) : Prop := b = 2 ∨ b = 20
theorem gfL {cr : amC} {μ : amM} {ci k x v : Nat} {f : Int → amR} (h1 : amTg (x : Int) = ci) (h2 : amCt cr μ x k = (v : Int)) : amGf cr μ ci k (x : Int) f = f v := by
  unfold amGf
  rw [Int.toNat_natCast, if_pos h1, h2]
  by_cases q : amFt ci k = 2
  · rw [if_pos q, if_pos (by omega)]
  · rw [if_neg q]
theorem pfL {cr : amC} {μ : amM} {ci k x : Nat} {v : Int} {f : amM → amR} (h1 : amTg (x : Int) = ci) (h0 : ci < 90) (h2 : cr x k = none) (h3 : amFt ci k ≠ 4) : amPf cr μ ci k (x : Int) v f = f (up μ x k v) := by
  unfold amPf
  rw [if_pos ⟨h1, h0, by rw [Int.toNat_natCast]; exact h2, fun q => absurd q h3⟩, Int.toNat_natCast]
theorem aldL {μ : amM} {c n : Nat} {i : Int} {f : Int → amR} (h1 : amTg (c : Int) = 20 ∧ amLn (c : Int) = n) (h2 : 0 ≤ i) (h3 : i < (n : Int)) : amAld μ (c : Int) i f = f (μ c i.toNat) := by
  unfold amAld
  rw [if_pos h1.1, h1.2, if_pos ⟨h2, h3⟩, Int.toNat_natCast]
theorem pstL {μ : amM} {c n : Nat} {i v : Int} {f : amM → amR} (h1 : amTg (c : Int) = 20 ∧ amLn (c : Int) = n) (h2 : 0 ≤ i) (h3 : i < (n : Int)) : amPst 20 μ (c : Int) i v f = f (up μ c i.toNat v) := by
  unfold amPst
  rw [if_pos h1.1, h1.2, if_pos ⟨h2, h3⟩, if_neg (by decide), Int.toNat_natCast]
theorem tw0 {b : Nat} (h : isTw b) : amTg (b : Int) = 2 := by rcases h with rfl | rfl <;> rfl
theorem tw1 {b : Nat} (h : isTw b) : amTg ((b + 1 : Nat) : Int) = 20 ∧ amLn ((b + 1 : Nat) : Int) = (64 : Nat) := by rcases h with rfl | rfl <;> exact ⟨rfl, rfl⟩
theorem tw4 {b : Nat} (h : isTw b) : amTg ((b + 4 : Nat) : Int) = 20 ∧ amLn ((b + 4 : Nat) : Int) = (256 : Nat) := by rcases h with rfl | rfl <;> exact ⟨rfl, rfl⟩
theorem tw5 {b : Nat} (h : isTw b) : amTg ((b + 5 : Nat) : Int) = 20 ∧ amLn ((b + 5 : Nat) : Int) = (64 : Nat) := by rcases h with rfl | rfl <;> exact ⟨rfl, rfl⟩
def lyS (b c i : Nat) : Bool := (Nat.beq c b && (Nat.ble 7 i && Nat.ble i 10)) || Nat.beq c (b + 1) || Nat.beq c (b + 4) || Nat.beq c (b + 5)
def lySa (b c _ : Nat) : Bool := Nat.beq c (b + 4) || Nat.beq c (b + 5)
theorem lySa_b (b i : Nat) : lySa b b i = false := by
  unfold lySa
  rw [beq_f (by omega), beq_f (by omega)]; rfl
theorem lyS_b {b i : Nat} (h : i < 7) : lyS b b i = false := by
  unfold lyS
  rw [beq_f (show b ≠ b + 1 by omega), beq_f (show b ≠ b + 4 by omega), beq_f (show b ≠ b + 5 by omega), ble_f (show i < 7 from h), Bool.false_and, Bool.and_false]; rfl
theorem LH.keep {cr : amC} {b : Nat} {μ μ' : amM} (h : LH cr b μ) (hs : ∀ i, i < 7 → μ' b i = μ b i) : LH cr b μ' := by
  have e : ∀ i, i < 7 → amCt cr μ' b i = amCt cr μ b i := fun i hi => by
    unfold amCt
    rw [hs i hi]
  exact ⟨(e _ (by decide)).trans h.1, (e _ (by decide)).trans h.2.1, (e _ (by decide)).trans h.2.2.1, h.2.2.2⟩
/-- the sides so far -/
def SR (b L : Nat) (f : Nat → List Nat) (μ : amM) : Prop := ∀ lot, lot < L → μ (b + 5) lot = ((f lot).length : Nat) ∧ ∀ i, i < (f lot).length → μ (b + 4) (4 * lot + i) = ((f lot).getD i 0 : Nat)
theorem sd_loop (cr : amC) (d : Nat) {b : Nat} (hb : isTw b) {L : Nat} (hL : L ≤ 64) {f : Nat → List Nat} {lot o : Nat} (hl : lot < L) (hf : (f lot).length < 4) : ∀ (at' : Nat) (μ : amM), LH cr b μ → at' ≤ (f lot).length → (∀ l, l < L → μ (b + 5) l = ((f l).length : Nat)) → (∀ l, l < L → l ≠ lot → ∀ i, i < (f l).length → i < 4 → μ (b + 4) (4 * l + i) = ((f l).getD i 0 : Nat)) → (∀ i, i < at' → μ (b + 4) (4 * lot + i) = ((f lot).getD i 0 : Nat)) → (∀ i, at' < i → i ≤ (f lot).length → μ (b + 4) (4 * lot + i) = ((f lot).getD (i - 1) 0 : Nat)) → ∃ μ', At cr d 65 1 [] [(b : Int), (lot : Int), (o : Int), 4 * (lot : Int), (at' : Int)] μ = some (0, μ') ∧ same (lySa b) μ μ' ∧ (∀ l, l < L → μ' (b + 5) l = (if l = lot then ((f lot).length : Int) + 1 else ((f l).length : Nat))) ∧ (∀ l, l < L → l ≠ lot → ∀ i, i < (f l).length → i < 4 → μ' (b + 4) (4 * l + i) = ((f l).getD i 0 : Nat)) ∧ (∀ i, i ≤ (f lot).length → μ' (b + 4) (4 * lot + i) = if i < insP (f lot) o at' then (((f lot).getD i 0 : Nat) : Int) else if i = insP (f lot) o at' then (o : Int) else (((f lot).getD (i - 1) 0 : Nat) : Int)) := by
  have fin : ∀ (p : Nat) (μ : amM), LH cr b μ → p ≤ (f lot).length → (∀ l, l < L → μ (b + 5) l = ((f l).length : Nat)) → (∀ l, l < L → l ≠ lot → ∀ i, i < (f l).length → i < 4 → μ (b + 4) (4 * l + i) = ((f l).getD i 0 : Nat)) → (∀ i, i < p → μ (b + 4) (4 * lot + i) = ((f lot).getD i 0 : Nat)) → (∀ i, p < i → i ≤ (f lot).length → μ (b + 4) (4 * lot + i) = ((f lot).getD (i - 1) 0 : Nat)) → ∃ μ', At cr d 65 2 [] [(b : Int), (lot : Int), (o : Int), 4 * (lot : Int), (p : Int)] μ = some (0, μ') ∧ same (lySa b) μ μ' ∧ (∀ l, l < L → μ' (b + 5) l = (if l = lot then ((f lot).length : Int) + 1 else ((f l).length : Nat))) ∧ (∀ l, l < L → l ≠ lot → ∀ i, i < (f l).length → i < 4 → μ' (b + 4) (4 * l + i) = ((f l).getD i 0 : Nat)) ∧ (∀ i, i ≤ (f lot).length → μ' (b + 4) (4 * lot + i) = if i < p then (((f lot).getD i 0 : Nat) : Int) else if i = p then (o : Int) else (((f lot).getD (i - 1) 0 : Nat) : Int)) := by
    intro p μ hL' hp h5 h4 h1 h2
    have s1 : same (lySa b) μ (up μ (b + 4) (4 * lot + p) (o : Int)) := same.rf.up (by unfold lySa; rw [Nat.beq_refl (b + 4)]; rfl)
    have e5 : up μ (b + 4) (4 * lot + p) (o : Int) (b + 5) lot = ((f lot).length : Nat) := by rw [up_ne _ _ _ _ (Or.inl (by omega))]; exact h5 lot hl
    have L2 := hL'.keep (fun i _ => s1 _ _ (lySa_b b i))
    rw [B65_2, gfL (tw0 hb) hL'.2.1, w32_i (by omega) (by omega), pstL (tw4 hb) (by omega) (by omega), show (4 * (lot : Int) + (p : Int)).toNat = 4 * lot + p by omega, gfL (tw0 hb) L2.2.2.1, aldL (tw5 hb) (by omega) (by omega), Int.toNat_natCast, e5, w32_i (by omega) (by omega), pstL (tw5 hb) (by omega) (by omega), Int.toNat_natCast]
    refine ⟨_, rfl, s1.up (by unfold lySa; rw [Nat.beq_refl (b + 5), Bool.or_true]), fun l hl2 => ?_, fun l hl2 hne i hi hi4 => ?_, fun i hi => ?_⟩
    · rw [up_if]
      by_cases e : l = lot
      · rw [if_pos e, if_pos e]
      · rw [if_neg e, if_neg e, up_ne _ _ _ _ (Or.inl (by omega))]
        exact h5 l hl2
    · rw [up_ne _ _ _ _ (Or.inl (by omega)), up_if, if_neg (by omega)]
      exact h4 l hl2 hne i hi hi4
    · rw [up_ne _ _ _ _ (Or.inl (by omega)), up_if]
      by_cases q : i < p
      · rw [if_neg (by omega), if_pos q]; exact h1 i q
      · by_cases q2 : i = p
        · rw [if_pos (by omega), if_neg q, if_pos q2]
        · rw [if_neg (by omega), if_neg q, if_neg q2]
          exact h2 i (by omega) hi
  intro at'
  induction at' with
  | zero =>
    intro μ hL' hp h5 h4 h1 h2
    rw [B65_1, if_neg (by omega)]
    exact fin 0 μ hL' hp h5 h4 h1 h2
  | succ n ih =>
    intro μ hL' hp h5 h4 h1 h2
    have ev := h1 n (by omega)
    rw [B65_1, if_pos (by omega), gfL (tw0 hb) hL'.2.1, w32_i (x := 4 * (lot : Int) + ((n + 1 : Nat) : Int)) (by omega) (by omega), w32_i (x := 4 * (lot : Int) + ((n + 1 : Nat) : Int) - 1) (by omega) (by omega), aldL (tw4 hb) (by omega) (by omega), show (4 * (lot : Int) + ((n + 1 : Nat) : Int) - 1).toNat = 4 * lot + n by omega, ev]
    unfold insP
    by_cases q : o < (f lot).getD n 0
    · rw [if_pos (by omega), if_pos q, gfL (tw0 hb) hL'.2.1, gfL (tw0 hb) hL'.2.1, aldL (tw4 hb) (by omega) (by omega), show (4 * (lot : Int) + ((n + 1 : Nat) : Int) - 1).toNat = 4 * lot + n by omega, ev, pstL (tw4 hb) (by omega) (by omega), show (4 * (lot : Int) + ((n + 1 : Nat) : Int)).toNat = 4 * lot + (n + 1) by omega, w32_i (x := ((n + 1 : Nat) : Int) + -1) (by omega) (by omega), show ((n + 1 : Nat) : Int) + -1 = (n : Int) by omega]
      have s1 : same (lySa b) μ (up μ (b + 4) (4 * lot + (n + 1)) (((f lot).getD n 0 : Nat) : Int)) := same.rf.up (by unfold lySa; rw [Nat.beq_refl (b + 4)]; rfl)
      obtain ⟨μ', g1, g2, g3, g4, g5⟩ := ih _ (hL'.keep (fun i _ => s1 _ _ (lySa_b b i))) (by omega) (fun l hl2 => by rw [up_ne _ _ _ _ (Or.inl (by omega))]; exact h5 l hl2) (fun l hl2 hne i hi hi4 => by rw [up_if, if_neg (by omega)]; exact h4 l hl2 hne i hi hi4) (fun i hi => by rw [up_if, if_neg (by omega)]; exact h1 i (by omega)) (fun i hi hi2 => by
        rw [up_if]
        by_cases e : i = n + 1
        · rw [if_pos (by omega), e]; rfl
        · rw [if_neg (by omega)]; exact h2 i (by omega) hi2)
      exact ⟨μ', g1, s1.tr g2, g3, g4, g5⟩
    · rw [if_neg (by omega), if_neg q]
      exact fin (n + 1) μ hL' hp h5 h4 h1 h2
theorem addSide_e (cr : amC) (d : Nat) {b : Nat} (hb : isTw b) {L : Nat} (hL : L ≤ 64) {J : List (Nat × Nat)} {lot o : Nat} (hl : lot < L) {μ : amM} (h : LH cr b μ) (hr : SR b L (fsJ J) μ) : ∃ μ', RD cr (d + 1) 65 [(b : Int), (lot : Int), (o : Int)] μ = some (0, μ') ∧ SR b L (fsJ (J ++ [(lot, o)])) μ' ∧ same (lySa b) μ μ' := by
  have h4 := fsJ_le J lot
  rw [M65, gfL (tw0 hb) h.2.2.1, aldL (tw5 hb) (by omega) (by omega), Int.toNat_natCast, (hr lot hl).1]
  by_cases q : (fsJ J lot).length < 4
  · rw [if_pos (by omega), w32_i (by omega) (by omega), Int.mul_comm (lot : Int) 4]
    obtain ⟨μ', g1, g2, g3, g4, g5⟩ := sd_loop cr d hb hL (f := fsJ J) (o := o) hl q (fsJ J lot).length μ h (Nat.le_refl _) (fun l hl2 => (hr l hl2).1) (fun l hl2 _ i hi _ => (hr l hl2).2 i hi) (fun i hi => (hr lot hl).2 i hi) (fun i h1 h2 => absurd h1 (by omega))
    refine ⟨μ', g1, fun l hl2 => ?_, g2⟩
    rw [fsJ_add]
    by_cases e : l = lot
    · subst e
      have ea : addS (fsJ J l) o = insAt (insP (fsJ J l) o (fsJ J l).length) o (fsJ J l) := by
        unfold addS
        rw [if_pos q]
      have hg3 := g3 l hl2
      rw [if_pos rfl] at hg3
      rw [if_pos rfl, ea, insAt_len]
      refine ⟨hg3, fun i hi => ?_⟩
      rw [g5 i (by omega), insAt_get _ _ _ _ _ (insP_le _ _ _)]
      by_cases q1 : i < insP (fsJ J l) o (fsJ J l).length
      · rw [if_pos q1, if_pos q1]
      · rw [if_neg q1, if_neg q1]
        by_cases q2 : i = insP (fsJ J l) o (fsJ J l).length
        · rw [if_pos q2, if_pos q2]
        · rw [if_neg q2, if_neg q2]
    · have hg3 := g3 l hl2
      rw [if_neg e] at hg3
      rw [if_neg e]
      exact ⟨hg3, fun i hi => g4 l hl2 e i hi (Nat.lt_of_lt_of_le hi (fsJ_le J l))⟩
  · rw [if_neg (by omega)]
    refine ⟨μ, rfl, fun l hl2 => ?_, same.rf⟩
    rw [fsJ_add]
    by_cases e : l = lot
    · subst e
      unfold addS
      rw [if_pos rfl, if_neg q]
      exact hr l hl2
    · rw [if_neg e]
      exact hr l hl2
theorem join_e (cr : amC) (d : Nat) {b : Nat} (hb : isTw b) {L : Nat} (hL : L ≤ 64) {J : List (Nat × Nat)} {lot o : Nat} (hl : lot < L) (ho : o < L) {μ : amM} (h : LH cr b μ) (hr : SR b L (fsJ J) μ) : ∃ μ', RD cr (d + 2) 64 [(b : Int), (lot : Int), (o : Int)] μ = some (0, μ') ∧ SR b L (fsJ (J ++ [(lot, o), (o, lot)])) μ' ∧ same (lySa b) μ μ' := by
  obtain ⟨μ1, g1, g2, g3⟩ := addSide_e cr d hb hL (o := o) hl h hr
  obtain ⟨μ2, f1, f2, f3⟩ := addSide_e cr d hb hL (o := lot) ho (h.keep (fun i _ => g3 _ _ (lySa_b b i))) g2
  rw [List.append_assoc] at f2
  exact ⟨μ2, by rw [M64, if_pos (tw0 hb), g1, bnd_s, if_pos (tw0 hb), f1, bnd_s], f2, g3.tr f3⟩
