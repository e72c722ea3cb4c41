/-! ===== the reference's search: its runs ===== -/
def Gre (lev c i : Nat) : Bool := decide ((c = 71 ∧ ((4 ≤ i ∧ i ≤ 9) ∨ i = 14 ∨ i = 15)) ∨ c = 75 ∨ (78 ≤ c ∧ c ≤ 82 ∧ lev ≤ i))
theorem S71w_G {lev : Nat} {μ μ' : amM} (h : same S71w μ μ') : same (Gre lev) μ μ' := h.wide (fun c i q => by
  have w := nd_of q
  unfold S71w
  by_cases e : c = 71
  · rw [beq_f (a := i) (b := 14) (by omega), beq_f (a := i) (b := 15) (by omega), Bool.or_false, Bool.and_false]
  · rw [beq_f e]; rfl)
theorem STg_G {lev : Nat} {μ μ' : amM} (h : same STg μ μ') : same (Gre lev) μ μ' := h.wide (fun c i q => by
  have w := nd_of q
  unfold STg SWk
  rw [beq_f (a := c) (b := 75) (by omega), Bool.or_false]
  by_cases e : c = 71
  · by_cases e2 : 4 ≤ i
    · rw [ble_f (a := i) (b := 9) (by omega), Bool.and_false, Bool.and_false]
    · rw [ble_f (a := 4) (b := i) (by omega), Bool.false_and, Bool.and_false]
  · rw [beq_f e]; rfl)
theorem Gre_up {lev : Nat} {μ μ' : amM} (h : same (Gre (lev + 1)) μ μ') : same (Gre lev) μ μ' := h.wide (fun c i q => dn (by
  have w := nd_of q
  omega))
theorem ixf_hit {α : Type} {P : α → Bool} (z : α) : ∀ (l : List α) (i : Nat), (l.filter P).length ≠ 0 → ∃ j, ixf P l i = ((i + j : Nat) : Int) ∧ j < l.length ∧ l.getD j z = (l.filter P).getD 0 z
  | [], _, h => absurd rfl h
  | a :: l, i, h => by
    unfold ixf
    cases q : P a with
    | true => exact ⟨0, by rw [if_pos rfl]; rfl, by rw [List.length_cons]; omega, by rw [List.filter_cons_of_pos q]; rfl⟩
    | false =>
      rw [List.filter_cons_of_neg (by rw [q]; decide)] at h ⊢
      obtain ⟨j, h1, h2, h3⟩ := ixf_hit z l (i + 1) h
      refine ⟨j + 1, ?_, by rw [List.length_cons]; omega, h3⟩
      rw [if_neg (by decide), h1]
      omega
/-- what the reference holds while it searches -/
def RMu (U : Nat → Bool) (lev : Nat) (μ : amM) : Prop := ∀ l kk, l < 64 → kk < 4 → (U (4 * l + kk) = true ↔ (μ 71 21 = ((4 * l + kk : Nat) : Int) ∨ ∃ j, j < lev ∧ μ 80 j = (l : Int) ∧ μ 81 j = (kk : Int)))
def RMm (k : K) (t : Tn) (U : Nat → Bool) (lev : Nat) (μ : amM) : Prop := TM 72 t μ ∧ PF t.prs μ ∧ MX 72 0 k.x0 μ ∧ RMu U lev μ
theorem RMm.keep {k : K} {t : Tn} {U : Nat → Bool} {lev : Nat} {μ μ' : amM} (h : RMm k t U lev μ) (hs : same (Gre lev) μ μ') : RMm k t U lev μ' := by
  refine ⟨h.1.keep hs (fun _ => dn (by omega)), h.2.1.s hs (dn (by omega)) (fun _ => dn (by omega)) (fun _ => dn (by omega)), h.2.2.1.keep hs (dn (by omega)) (fun _ _ => dn (by omega)), fun l kk hl hk => ?_⟩
  rw [h.2.2.2 l kk hl hk, hs _ _ (dn (by omega))]
  constructor
  · rintro (e | ⟨j, h1, h2, h3⟩)
    · exact Or.inl e
    · exact Or.inr ⟨j, h1, (hs _ _ (dn (by omega))).trans h2, (hs _ _ (dn (by omega))).trans h3⟩
  · rintro (e | ⟨j, h1, h2, h3⟩)
    · exact Or.inl e
    · exact Or.inr ⟨j, h1, (hs _ _ (dn (by omega))).symm.trans h2, (hs _ _ (dn (by omega))).symm.trans h3⟩
theorem ch_l (e : Nat) {U : Nat → Bool} {lev : Nat} (hlev : lev < 6) {l kk : Nat} {μ : amM} (hU : U (4 * l + kk) = true ↔ (μ 71 21 = ((4 * l + kk : Nat) : Int) ∨ ∃ j, j < lev ∧ μ 80 j = (l : Int) ∧ μ 81 j = (kk : Int))) : ∀ (n j : Nat) (b : Bool), j + n = lev → (b = true ↔ (μ 71 21 = ((4 * l + kk : Nat) : Int) ∨ ∃ j', j' < j ∧ μ 80 j' = (l : Int) ∧ μ 81 j' = (kk : Int))) → At cr2 e 206 3 [] [71, (l : Int), (kk : Int), (lev : Int), bi b, (j : Int)] μ = some (bi (U (4 * l + kk)), μ)
  | 0, j, b, hj, hb => by
    have hj : j = lev := hj
    rw [hj] at hb
    have e1 : b = U (4 * l + kk) := by
      rw [Bool.eq_iff_iff, hb, hU]
    rw [B206_3, if_neg (by omega), B206_7, rb_bi, e1]
  | n + 1, j, b, hj, hb => by
    have wi : w32 ((j : Int) + 1) = ((j + 1 : Nat) : Int) := wi1 (by omega)
    have ih := fun b' hb' => ch_l e hlev hU n (j + 1) b' (by omega) hb'
    rw [B206_3, if_pos (by omega)]
    cases b with
    | true =>
      rw [if_neg (by decide), B206_4, B206_6, wi]
      refine ih true ⟨fun _ => ?_, fun _ => rfl⟩
      rcases hb.mp rfl with w | ⟨j', w1, w2⟩
      · exact Or.inl w
      · exact Or.inr ⟨j', by omega, w2⟩
    | false =>
      have nb : ¬ (μ 71 21 = ((4 * l + kk : Nat) : Int) ∨ ∃ j', j' < j ∧ μ 80 j' = (l : Int) ∧ μ 81 j' = (kk : Int)) := fun w => by
        have := hb.mpr w
        cases this
      have no : ¬ (μ 80 j = (l : Int) ∧ μ 81 j = (kk : Int)) → At cr2 e 206 5 [] [71, (l : Int), (kk : Int), (lev : Int), 0, (j : Int)] μ = some (bi (U (4 * l + kk)), μ) := fun hn => by
        rw [B206_5, B206_6, wi]
        refine ih false ⟨fun w => (by cases w), fun w => ?_⟩
        rcases w with w | ⟨j', w1, w2⟩
        · exact absurd (Or.inl w) nb
        · by_cases ej : j' = j
          · rw [ej] at w2
            exact absurd w2 hn
          · exact absurd (Or.inr ⟨j', by omega, w2⟩) nb
      rw [if_pos (by rfl), rd_p (geI _) (by omega), Int.toNat_natCast]
      by_cases q1 : μ 80 j = (l : Int)
      · rw [if_pos q1, rd_p (geI _) (by omega), Int.toNat_natCast]
        by_cases q2 : μ 81 j = (kk : Int)
        · rw [if_pos q2, B206_4, B206_6, wi]
          exact ih true ⟨fun _ => Or.inr ⟨j, by omega, q1, q2⟩, fun _ => rfl⟩
        · rw [if_neg q2]
          exact no (fun w => q2 w.2)
      · rw [if_neg q1]
        exact no (fun w => q1 w.1)
theorem ch_e (e : Nat) {U : Nat → Bool} {lev : Nat} (hlev : lev < 6) {l kk : Nat} (hl : l < 64) (hk : kk < 4) {μ : amM} (h : RMu U lev μ) : RD cr2 (e + 1) 206 [71, (l : Int), (kk : Int), (lev : Int)] μ = some (bi (U (4 * l + kk)), μ) := by
  have hU := h l kk hl hk
  have w : w32 ((w32 (4 * (l : Int))) + (kk : Int)) = ((4 * l + kk : Nat) : Int) := by
    rw [w32_i (x := 4 * (l : Int)) (by omega) (by omega), w32_i (by omega) (by omega)]
    omega
  have no : ∀ j', ¬ j' < 0 := fun j' => Nat.not_lt_zero j'
  rw [M206, w]
  by_cases q : μ 71 21 = ((4 * l + kk : Nat) : Int)
  · rw [if_pos q, B206_2]
    exact ch_l e hlev hU lev 0 true (by omega) ⟨fun _ => Or.inl q, fun _ => rfl⟩
  · rw [if_neg q, B206_1, B206_2]
    exact ch_l e hlev hU lev 0 false (by omega) ⟨fun w => (by cases w), fun w => by
      rcases w with w | ⟨j', w1, w2⟩
      · exact absurd w q
      · exact absurd w1 (no j')⟩
theorem up_id {μ : amM} {c i : Nat} {v : Int} (h : μ c i = v) : up μ c i v = μ := by
  funext c' i'
  by_cases e : c' = c ∧ i' = i
  · rw [e.1, e.2, up_eq, h]
  · rw [up_ne _ _ _ _ (by omega)]
/-- the town one mark further, and back -/
theorem RMm.turn {k : K} {t : Tn} {U : Nat → Bool} {lev : Nat} {μ : amM} (ht : NDt k t) (h : RMm k t U lev μ) {l kk : Nat} (hl : l < t.lots) (ne : t.kind l ≠ -1) (hk : kk < 4) {s : Int} (hs : 0 ≤ s ∧ s < 4) : RMm k (t.turn l kk s) U lev (up μ 72 (148 + 4 * l + kk) s) := by
  have h64 := ht.1.le.2
  have g : ∀ c i, c ≠ 72 → up μ 72 (148 + 4 * l + kk) s c i = μ c i := fun c i hc => up_ne _ _ _ _ (Or.inl hc)
  refine ⟨(turn_m ht.1 h.1 hl ne hk hs).1, h.2.1.u _ _, ⟨(up_ne _ _ _ _ (Or.inr (by omega))).trans h.2.2.1.1, fun i hi => (up_ne _ _ _ _ (Or.inr (by omega))).trans (h.2.2.1.2 i hi)⟩, fun a b ha hb => ?_⟩
  rw [g _ _ (by decide)]
  exact h.2.2.2 a b ha hb
/-- a house's option: what is to be done with it -/
def rfC (f : Tn → (Nat → Bool) → Int → Int → Int) (d ch lev : Nat) (k : K) : Prop := ∀ (t : Tn) (U : Nat → Bool) (a b : Int) (μ : amM), NDt k t → RMm k t U (lev + 1) μ → 0 ≤ a → a ≤ 200 * ((lev + 1 : Nat) : Int) → ∃ μ', At cr2 (d + 68) 207 1 [] [71, (ch : Int), b, a, ((lev + 1 : Nat) : Int), 1, 0, 0, 0, 0] μ = At cr2 (d + 68) 207 7 [] [71, (ch : Int), f t U a b, a, ((lev + 1 : Nat) : Int), 0, 0, 0, 0, 0] μ' ∧ 23 ≤ μ' 79 (lev + 1) ∧ μ' 79 (lev + 1) ≤ 24 ∧ same (Gre (lev + 1)) μ μ'
theorem mcost_to (d : Nat) {k : K} (okk : k.Ok) {t : Tn} (ht : NDt k t) {μ : amM} (h : TM 72 t μ) (hx : MX 72 0 k.x0 μ) {l kk : Nat} (hl : l < t.lots) (ne : t.kind l ≠ -1) (hk : kk < 4) : ∃ μ', RD cr2 (d + 68) 185 [71, (l : Int), (kk : Int)] μ = some (k.W (4 * l + kk), μ') ∧ same STg μ μ' := by
  obtain ⟨μ', a, b⟩ := mCostOf_e d (k := k.to t) ⟨ht.1, okk.2⟩ h hx hl ne kk
  rw [cost_to ht hl hk] at a
  exact ⟨μ', a, b⟩
theorem RMu.more {U : Nat → Bool} {lev : Nat} {μ : amM} (h : RMu U lev μ) {l kk : Nat} (hk : kk < 4) (h1 : μ 80 lev = (l : Int)) (h2 : μ 81 lev = (kk : Int)) : RMu (lk1 U (4 * l + kk)) (lev + 1) μ := fun a b ha hb => by
  unfold lk1
  rw [Bool.or_eq_true, h a b ha hb, beq_iff_eq]
  constructor
  · rintro (e | e | ⟨j, j1, j2⟩)
    · have e1 : a = l := by omega
      have e2 : b = kk := by omega
      exact Or.inr ⟨lev, by omega, by rw [e1]; exact h1, by rw [e2]; exact h2⟩
    · exact Or.inl e
    · exact Or.inr ⟨j, by omega, j2⟩
  · rintro (e | ⟨j, j1, j2, j3⟩)
    · exact Or.inr (Or.inl e)
    · by_cases ej : j = lev
      · rw [ej] at j2 j3
        rw [h1] at j2
        rw [h2] at j3
        exact Or.inl (by omega)
      · exact Or.inr (Or.inr ⟨j, by omega, j2, j3⟩)
def Gr2 (lev c i : Nat) : Bool := decide ((c = 71 ∧ ((4 ≤ i ∧ i ≤ 9) ∨ i = 14 ∨ i = 15)) ∨ c = 75 ∨ (78 ≤ c ∧ c ≤ 82 ∧ lev + 1 ≤ i) ∨ (80 ≤ c ∧ c ≤ 82 ∧ i = lev))
theorem Gr2_G {lev : Nat} {μ μ' : amM} (h : same (Gr2 lev) μ μ') : same (Gre lev) μ μ' := h.wide (fun c i q => dn (by
  have w := nd_of q
  omega))
theorem Gre_2 {lev : Nat} {μ μ' : amM} (h : same (Gre (lev + 1)) μ μ') : same (Gr2 lev) μ μ' := h.wide (fun c i q => dn (by
  have w := nd_of q
  omega))
/-- one option taken: gone down, come back -/
theorem op_t (d : Nat) {k : K} (okk : k.Ok) {ch lev : Nat} (hlev : lev < ch) (hch : ch ≤ 4) {f : Tn → (Nat → Bool) → Int → Int → Int} (hf : rfC f d ch lev k) {t : Tn} {U : Nat → Bool} {a : Int} (ht : NDt k t) (h0 : 0 ≤ a) (ha : a ≤ 200 * (lev : Int)) {l kk : Nat} (hl : l < t.lots) (hb : t.bound l = true) (hk : kk < 4) {s : Nat} (hs : s < 3) (b : Int) (μ : amM) (h : RMm k t U lev μ) : ∃ μ', At cr2 (d + 68) 207 11 [] [71, (ch : Int), b, a, (lev : Int), 0, 0, (l : Int), (kk : Int), (s : Int)] μ = At cr2 (d + 68) 207 7 [] [71, (ch : Int), f (t.turn l kk (s : Int)) (lk1 U (4 * l + kk)) (a + k.W (4 * l + kk)) b, a, (lev : Int), 0, 0, 0, 0, 0] μ' ∧ same (Gr2 lev) μ μ' := by
  have h64 := ht.1.le.2
  have ne := Tn.bound_ne hb
  have l64 : l < 64 := Nat.lt_of_lt_of_le hl h64
  have lev6 : lev < 6 := by omega
  have lev7 : lev + 1 < 6 := by omega
  have hs4 : (0 : Int) ≤ (s : Int) ∧ (s : Int) < 4 := by omega
  have WB := W_R okk ht (m := 4 * l + kk) (by rw [show (4 * l + kk) / 4 = l by omega]; exact hb)
  have wl : w32 ((lev : Int) + 1) = ((lev + 1 : Nat) : Int) := wi1 (by omega)
  have wm : w32 (((lev + 1 : Nat) : Int) + (-1)) = (lev : Int) := by
    rw [w32_i (by omega) (by omega)]; omega
  have s1 : same (Gr2 lev) μ (up μ 80 lev (l : Int)) := same.rf.up (decide_eq_true (by omega))
  have s2 : same (Gr2 lev) μ (up (up μ 80 lev (l : Int)) 81 lev (kk : Int)) := s1.up (decide_eq_true (by omega))
  have s3 : same (Gr2 lev) μ (up (up (up μ 80 lev (l : Int)) 81 lev (kk : Int)) 82 lev (mk (t.code l) kk)) := s2.up (decide_eq_true (by omega))
  have h2 := h.keep (Gr2_G s2)
  have h3 := h.keep (Gr2_G s3)
  have mm : RD cr2 (d + 68) 157 [71, (l : Int), (kk : Int)] (up (up μ 80 lev (l : Int)) 81 lev (kk : Int)) = some (mk (t.code l) kk, up (up μ 80 lev (l : Int)) 81 lev (kk : Int)) := mMark_e (d + 67) ht.1 h2.1 hl hk ne
  obtain ⟨μd, d1, d2⟩ := mcost_to d okk ht h3.1 h3.2.2.1 hl ne hk
  have d2 : same (Gre (lev + 1)) _ μd := STg_G d2
  have s4 : same (Gr2 lev) μ μd := s3.tn (Gre_2 d2)
  have h4 := h.keep (Gr2_G s4)
  have v80 : μd 80 lev = (l : Int) := by
    rw [d2 _ _ (dn (by omega)), up_ne _ _ _ _ (Or.inl (by decide)), up_ne _ _ _ _ (Or.inl (by decide)), up_eq]
  have v81 : μd 81 lev = (kk : Int) := by
    rw [d2 _ _ (dn (by omega)), up_ne _ _ _ _ (Or.inl (by decide)), up_eq]
  have v82 : μd 82 lev = mk (t.code l) kk := by
    rw [d2 _ _ (dn (by omega)), up_eq]
  have t1 := h4.turn ht hl ne hk hs4
  have t2 : RMm k (t.turn l kk (s : Int)) (lk1 U (4 * l + kk)) (lev + 1) (up μd 72 (148 + 4 * l + kk) (s : Int)) := ⟨t1.1, t1.2.1, t1.2.2.1, t1.2.2.2.more hk ((up_ne _ _ _ _ (Or.inl (by decide))).trans v80) ((up_ne _ _ _ _ (Or.inl (by decide))).trans v81)⟩
  obtain ⟨μf, f1, f2, f3, f4⟩ := hf (t.turn l kk (s : Int)) (lk1 U (4 * l + kk)) (a + k.W (4 * l + kk)) b _ (ht.turn hl ne hk hs4) t2 (by omega) (by omega)
  have wx : w32 (μf 79 (lev + 1) + 1) = μf 79 (lev + 1) + 1 := w32_i (by omega) (by omega)
  have sg : same (Gre (lev + 1)) (up μd 72 (148 + 4 * l + kk) (s : Int)) (up μf 79 (lev + 1) (μf 79 (lev + 1) + 1)) := f4.up (decide_eq_true (by omega))
  have u80 : up μf 79 (lev + 1) (μf 79 (lev + 1) + 1) 80 lev = (l : Int) := (sg _ _ (dn (by omega))).trans ((up_ne _ _ _ _ (Or.inl (by decide))).trans v80)
  have u81 : up μf 79 (lev + 1) (μf 79 (lev + 1) + 1) 81 lev = (kk : Int) := (sg _ _ (dn (by omega))).trans ((up_ne _ _ _ _ (Or.inl (by decide))).trans v81)
  have u82 : up μf 79 (lev + 1) (μf 79 (lev + 1) + 1) 82 lev = mk (t.code l) kk := (sg _ _ (dn (by omega))).trans ((up_ne _ _ _ _ (Or.inl (by decide))).trans v82)
  have ug : up μf 79 (lev + 1) (μf 79 (lev + 1) + 1) 79 (lev + 1) = μf 79 (lev + 1) + 1 := up_eq _ _ _ _
  generalize hμg : up μf 79 (lev + 1) (μf 79 (lev + 1) + 1) = μg at sg u80 u81 u82 ug
  have w80 : up μg 72 (148 + 4 * l + kk) (mk (t.code l) kk) 80 lev = (l : Int) := (up_ne _ _ _ _ (Or.inl (by decide))).trans u80
  have w81 : up μg 72 (148 + 4 * l + kk) (mk (t.code l) kk) 81 lev = (kk : Int) := (up_ne _ _ _ _ (Or.inl (by decide))).trans u81
  have sh : same (Gr2 lev) μ (up μg 72 (148 + 4 * l + kk) (mk (t.code l) kk)) := fun c i q => by
    have w := nd_of q
    by_cases e : c = 72 ∧ i = 148 + 4 * l + kk
    · rw [e.1, e.2, up_eq]
      exact (((h.1.2 l hl).2 ne).2 kk hk).symm
    · rw [up_ne _ _ _ _ (by omega), sg c i (dn (by omega)), up_ne _ _ _ _ (by omega)]
      exact s4 c i q
  have h5 := h.keep (Gr2_G sh)
  obtain ⟨μi, i1, i2⟩ := mcost_to d okk ht h5.1 h5.2.2.1 hl ne hk
  refine ⟨μi, ?_, sh.tn (Gre_2 (STg_G i2))⟩
  rw [B207_11, wr_p (geI _) (ltI lev6), Int.toNat_natCast, wr_p (geI _) (ltI lev6), Int.toNat_natCast, mm, bnd_s, wr_p (geI _) (ltI lev6), Int.toNat_natCast, d1, bnd_s, sets_e _ ht.1 hl hk, bnd_s, wl, w32_i (x := a + k.W (4 * l + kk)) (by omega) (by omega), f1, B207_7, rd_p (geI _) (ltI lev7), Int.toNat_natCast, wr_p (geI _) (ltI lev7), Int.toNat_natCast, wx, hμg, rd_p (geI _) (ltI lev7), Int.toNat_natCast, ug, if_neg (by omega), wm, if_neg (by omega), rd_p (geI _) (ltI lev6), Int.toNat_natCast, u80, rd_p (geI _) (ltI lev6), Int.toNat_natCast, u81, rd_p (geI _) (ltI lev6), Int.toNat_natCast, u82, sets_e _ ht.1 hl hk, bnd_s, rd_p (geI _) (ltI lev6), Int.toNat_natCast, w80, rd_p (geI _) (ltI lev6), Int.toNat_natCast, w81, i1, bnd_s, show a + k.W (4 * l + kk) - k.W (4 * l + kk) = a by omega, w32_i (x := a) (by omega) (by omega), B207_1, if_neg (by omega), if_pos rfl]
theorem op_l (d : Nat) {k : K} (okk : k.Ok) {ch lev : Nat} (hlev : lev < ch) (hch : ch ≤ 4) {f : Tn → (Nat → Bool) → Int → Int → Int} (hf : rfC f d ch lev k) {t : Tn} {U : Nat → Bool} {a : Int} (ht : NDt k t) (h0 : 0 ≤ a) (ha : a ≤ 200 * (lev : Int)) {p : Nat × Nat} {i0 : Nat} (hi : i0 < t.prs.length) (hp : t.prs.getD i0 (0, 0) = p) (b1 : p.1 < t.lots ∧ t.bound p.1 = true) (b2 : p.2 < t.lots ∧ t.bound p.2 = true) : ∀ (n v : Nat) (b : Int) (μ : amM), v + n = 24 → RMm k t U lev μ → μ 79 lev = (v : Int) - 1 → μ 78 lev = (i0 : Int) → ∃ μ', At cr2 (d + 68) 207 7 [] [71, (ch : Int), b, a, (lev : Int), 0, 0, 0, 0, 0] μ = At cr2 (d + 68) 207 7 [] [71, (ch : Int), rfo k.W f t U a p n v b, a, (lev : Int), 0, 0, 0, 0, 0] μ' ∧ μ' 79 lev = 23 ∧ same (Gre lev) μ μ'
  | 0, v, b, μ, hv, h, h79, h78 => ⟨μ, rfl, by rw [h79]; omega, same.rf⟩
  | n + 1, v, b, μ, hv, h, h79, h78 => by
    have h64 := ht.1.le.2
    have h128 := ht.1.prs
    have lev6 : lev < 6 := by omega
    have i128 : i0 < 128 := by omega
    have v24 : v < 24 := by omega
    have wv : w32 ((v : Int) - 1 + 1) = (v : Int) := by
      rw [w32_i (by omega) (by omega)]; omega
    have s1 : same (Gre lev) μ (up μ 79 lev (v : Int)) := same.rf.up (decide_eq_true (by omega))
    have h1 := h.keep s1
    have e79 : up μ 79 lev (v : Int) 79 lev = (v : Int) := up_eq _ _ _ _
    have e78 : up μ 79 lev (v : Int) 78 lev = (i0 : Int) := (up_ne _ _ _ _ (Or.inl (by decide))).trans h78
    have go : At cr2 (d + 68) 207 7 [] [71, (ch : Int), b, a, (lev : Int), 0, 0, 0, 0, 0] μ = At cr2 (d + 68) 207 8 [] [71, (ch : Int), b, a, (lev : Int), 0, (v : Int), 0, 0, 0] (up μ 79 lev (v : Int)) := by
      rw [B207_7, rd_p (geI _) (ltI lev6), Int.toNat_natCast, h79, wv, wr_p (geI _) (ltI lev6), Int.toNat_natCast, rd_p (geI _) (ltI lev6), Int.toNat_natCast, e79, if_pos (by omega)]
    rw [go]
    clear go
    generalize up μ 79 lev (v : Int) = μ1 at s1 h1 e79 e78
    have pf := h1.2.1.2 i0 hi
    rw [hp] at pf
    have ol : olt p v < t.lots ∧ t.bound (olt p v) = true := by
      unfold olt
      by_cases q : v < 12
      · rw [if_pos q]; exact b1
      · rw [if_neg q]; exact b2
    have e10 : At cr2 (d + 68) 207 8 [] [71, (ch : Int), b, a, (lev : Int), 0, (v : Int), 0, 0, 0] μ1 = At cr2 (d + 68) 207 10 [(olt p v : Int)] [71, (ch : Int), b, a, (lev : Int), 0, (v : Int), 0, 0, 0] μ1 := by
      unfold olt
      rw [B207_8]
      by_cases q : v < 12
      · rw [if_pos (by omega), if_pos q, rd_p (geI _) (ltI lev6), Int.toNat_natCast, e78, rd_p (geI _) (ltI i128), Int.toNat_natCast, pf.1]
      · rw [if_neg (by omega), if_neg q, B207_9, rd_p (geI _) (ltI lev6), Int.toNat_natCast, e78, rd_p (geI _) (ltI i128), Int.toNat_natCast, pf.2]
    have kk4 : v % 12 / 3 < 4 := by omega
    have t2 : w32 (((v : Int).tmod 12).tdiv 3) = ((v % 12 / 3 : Nat) : Int) := by
      rw [show ((v : Int).tmod 12).tdiv 3 = ((v % 12 / 3 : Nat) : Int) from rfl, w32_i (by omega) (by omega)]
    have t3 : (v : Int).tmod 3 = ((v % 3 : Nat) : Int) := rfl
    have ne := Tn.bound_ne ol.2
    have l64 : olt p v < 64 := Nat.lt_of_lt_of_le ol.1 h64
    have next : ∀ b' μ2, same (Gr2 lev) μ1 μ2 → ∃ μ', At cr2 (d + 68) 207 7 [] [71, (ch : Int), b', a, (lev : Int), 0, 0, 0, 0, 0] μ2 = At cr2 (d + 68) 207 7 [] [71, (ch : Int), rfo k.W f t U a p n (v + 1) b', a, (lev : Int), 0, 0, 0, 0, 0] μ' ∧ μ' 79 lev = 23 ∧ same (Gre lev) μ μ' := fun b' μ2 q => by
      obtain ⟨μ3, c1, c2, c3⟩ := op_l d okk hlev hch hf ht h0 ha hi hp b1 b2 n (v + 1) b' μ2 (by omega) (h1.keep (Gr2_G q)) (by rw [q _ _ (dn (by omega)), e79]; omega) ((q _ _ (dn (by omega))).trans e78)
      exact ⟨μ3, c1, c2, (s1.tn (Gr2_G q)).tn c3⟩
    have mm : RD cr2 (d + 68) 157 [71, ((olt p v : Nat) : Int), ((v % 12 / 3 : Nat) : Int)] μ1 = some (mk (t.code (olt p v)) (v % 12 / 3), μ1) := mMark_e (d + 67) ht.1 h1.1 ol.1 kk4 ne
    have skip : At cr2 (d + 68) 207 1 [] [71, (ch : Int), b, a, (lev : Int), 0, 0, 0, 0, 0] μ1 = At cr2 (d + 68) 207 7 [] [71, (ch : Int), b, a, (lev : Int), 0, 0, 0, 0, 0] μ1 := by
      rw [B207_1, if_neg (by omega), if_pos rfl]
    unfold rfo
    rw [e10, B207_10, t2, t3, mm, bnd_s]
    by_cases q1 : mk (t.code (olt p v)) (v % 12 / 3) = ((v % 3 : Nat) : Int)
    · rw [if_pos q1, if_pos (Or.inl q1), skip]
      exact next b μ1 same.rf
    · rw [if_neg q1, ch_e _ lev6 l64 kk4 h1.2.2.2, bnd_s]
      cases q2 : U (4 * olt p v + v % 12 / 3) with
      | true =>
        rw [if_neg (by decide), if_pos (Or.inr rfl), skip]
        exact next b μ1 same.rf
      | false =>
        obtain ⟨μ2, c1, c2⟩ := op_t d okk hlev hch hf ht h0 ha ol.1 ol.2 kk4 (s := v % 3) (by omega) b μ1 h1
        rw [if_pos (by rfl), if_neg (by rintro (w | w); exact q1 w; cases w), c1]
        exact next _ μ2 c2
theorem rf_in (d : Nat) {k : K} {ch lev : Nat} (hle : lev ≤ ch) (hch : ch ≤ 4) {t : Tn} {U : Nat → Bool} (a b : Int) {μ : amM} (ht : NDt k t) (h : RMm k t U lev μ) : ∃ μ3, At cr2 (d + 68) 207 1 [] [71, (ch : Int), b, a, (lev : Int), 1, 0, 0, 0, 0] μ = (if t.wl.length = 0 then At cr2 (d + 68) 207 7 [] [71, (ch : Int), bet a b, a, (lev : Int), 0, 0, 0, 0, 0] μ3 else At cr2 (d + 68) 207 5 [] [71, (ch : Int), b, a, (lev : Int), 0, 0, 0, 0, 0] μ3) ∧ same (Gre lev) μ μ3 ∧ μ3 79 lev = 24 ∧ μ3 78 lev = ixf (fun p => t.wrong p.1 p.2) t.prs 0 ∧ μ3 71 14 = (t.wl.length : Int) := by
  have lev6 : lev < 6 := by omega
  obtain ⟨μ1, a1, a2, a3⟩ := findWrong_e (d + 64) ht.1 h.1 h.2.1
  have a1 : RD cr2 (d + 68) 180 [71] μ = some (0, μ1) := a1
  have a3 : same (Gre lev) μ μ1 := S71w_G a3
  have e15 : up μ1 79 lev 24 71 15 = ixf (fun p => t.wrong p.1 p.2) t.prs 0 := (up_ne _ _ _ _ (Or.inl (by decide))).trans a2.2
  have e14 : ∀ x, up (up μ1 79 lev 24) 78 lev x 71 14 = (t.wl.length : Int) := fun x => (up_ne _ _ _ _ (Or.inl (by decide))).trans ((up_ne _ _ _ _ (Or.inl (by decide))).trans a2.1)
  refine ⟨up (up μ1 79 lev 24) 78 lev (ixf (fun p => t.wrong p.1 p.2) t.prs 0), ?_, (a3.up (decide_eq_true (by omega))).up (decide_eq_true (by omega)), ?_, up_eq _ _ _ _, e14 _⟩
  · rw [B207_1, if_neg (by omega), if_neg (by decide), a1, bnd_s, wr_p (geI _) (ltI lev6), Int.toNat_natCast, wr_p (geI _) (ltI lev6), Int.toNat_natCast, e15, e14]
    by_cases q : t.wl.length = 0
    · rw [if_pos q, if_pos (by omega)]
      unfold bet
      by_cases q1 : b < 0
      · rw [if_pos q1, if_pos q1, B207_2, B207_4, B207_6]
      · rw [if_neg q1, if_neg q1]
        by_cases q2 : a < b
        · rw [if_pos q2, if_pos q2, B207_2, B207_4, B207_6]
        · rw [if_neg q2, if_neg q2, B207_3, B207_4, B207_6]
    · rw [if_neg q, if_neg (by omega)]
  · rw [up_ne _ _ _ _ (Or.inl (by decide)), up_eq]
theorem rf_c (d : Nat) {k : K} (okk : k.Ok) {ch : Nat} (hch : ch ≤ 4) : ∀ (m lev : Nat) (t : Tn) (U : Nat → Bool) (a b : Int) (μ : amM), lev + m = ch → NDt k t → RMm k t U lev μ → 0 ≤ a → a ≤ 200 * (lev : Int) → ∃ μ', At cr2 (d + 68) 207 1 [] [71, (ch : Int), b, a, (lev : Int), 1, 0, 0, 0, 0] μ = At cr2 (d + 68) 207 7 [] [71, (ch : Int), rf k.W m t U a b, a, (lev : Int), 0, 0, 0, 0, 0] μ' ∧ 23 ≤ μ' 79 lev ∧ μ' 79 lev ≤ 24 ∧ same (Gre lev) μ μ'
  | 0, lev, t, U, a, b, μ, hle, ht, h, h0, ha => by
    obtain ⟨μ3, c1, c2, c3, c4, c5⟩ := rf_in d (show lev ≤ ch by omega) hch a b ht h
    refine ⟨μ3, ?_, by rw [c3]; decide, by rw [c3]; decide, c2⟩
    rw [c1]
    unfold rf
    by_cases q : t.wl.length = 0
    · rw [if_pos q, if_pos q]
    · rw [if_neg q, if_neg q, B207_5, if_neg (by omega), B207_6]
  | m + 1, lev, t, U, a, b, μ, hle, ht, h, h0, ha => by
    have lev6 : lev < 6 := by omega
    have h128 := ht.1.prs
    obtain ⟨μ3, c1, c2, c3, c4, c5⟩ := rf_in d (show lev ≤ ch by omega) hch a b ht h
    have wc : w32 (4 * (w32 ((ch : Int) - (lev : Int)))) = ((4 * (m + 1) : Nat) : Int) := by
      rw [w32_i (x := (ch : Int) - (lev : Int)) (by omega) (by omega), w32_i (by omega) (by omega)]
      omega
    rw [c1]
    unfold rf
    by_cases q : t.wl.length = 0
    · rw [if_pos q, if_pos q]
      exact ⟨μ3, rfl, by rw [c3]; decide, by rw [c3]; decide, c2⟩
    · rw [if_neg q, if_neg q, B207_5, if_pos (by omega), wc, c5]
      by_cases q2 : t.wl.length ≤ 4 * (m + 1)
      · have hw := wl_mem.mp (getD_mem (0, 0) (show 0 < t.wl.length by omega))
        have hl := prs_lt ht.1 hw.1
        have w := wrong_b hw.2
        obtain ⟨i0, j1, j2, j3⟩ := ixf_hit (P := fun p : Nat × Nat => t.wrong p.1 p.2) (0, 0) t.prs 0 q
        rw [Nat.zero_add] at j1
        have s4 : same (Gre lev) μ (up μ3 79 lev (-1)) := c2.up (decide_eq_true (by omega))
        obtain ⟨μ', g1, g2, g3⟩ := op_l d okk (show lev < ch by omega) hch (f := rf k.W m) (fun t' U' a' b' μ' r1 r2 r3 r4 => rf_c d okk hch m (lev + 1) t' U' a' b' μ' (by omega) r1 r2 r3 r4) ht h0 ha (p := t.wl.getD 0 (0, 0)) j2 j3 ⟨by omega, w.1⟩ ⟨hl.2.1, w.2.1⟩ 24 0 b (up μ3 79 lev (-1)) rfl (h.keep s4) (up_eq _ _ _ _) ((up_ne _ _ _ _ (Or.inl (by decide))).trans (c4.trans j1))
        rw [if_neg (by omega), if_pos q2, wr_p (geI _) (ltI lev6), Int.toNat_natCast, B207_6]
        exact ⟨μ', g1, by rw [g2]; decide, by rw [g2]; decide, s4.tn g3⟩
      · rw [if_pos (by omega), if_neg q2, B207_6]
        exact ⟨μ3, rfl, by rw [c3]; decide, by rw [c3]; decide, c2⟩
/-- the reference's least cost -/
theorem rf_e (d : Nat) {k : K} (okk : k.Ok) {ch : Nat} (hch : ch ≤ 4) {t : Tn} {U : Nat → Bool} {μ : amM} (ht : NDt k t) (h : RMm k t U 0 μ) : ∃ μ', RD cr2 (d + 69) 207 [71, (ch : Int)] μ = some (rf k.W ch t U 0 (-1), μ') ∧ same (Gre 0) μ μ' := by
  obtain ⟨μ1, a1, a2, a3, a4⟩ := rf_c d okk hch ch 0 t U 0 (-1) μ (by omega) ht h (by decide) (by decide)
  have a1 : At cr2 (d + 68) 207 1 [] [71, (ch : Int), -1, 0, 0, 1, 0, 0, 0, 0] μ = At cr2 (d + 68) 207 7 [] [71, (ch : Int), rf k.W ch t U 0 (-1), 0, 0, 0, 0, 0, 0, 0] μ1 := a1
  have wx : w32 (μ1 79 0 + 1) = μ1 79 0 + 1 := w32_i (by omega) (by omega)
  refine ⟨up μ1 79 0 (μ1 79 0 + 1), ?_, a4.up (decide_eq_true (by omega))⟩
  rw [M207, a1, B207_7, rd_p (by decide) (by decide), show (0 : Int).toNat = 0 from rfl, wr_p (by decide) (by decide), show (0 : Int).toNat = 0 from rfl, wx, rd_p (by decide) (by decide), show (0 : Int).toNat = 0 from rfl, up_eq, if_neg (by omega), show w32 (0 + (-1)) = -1 from by decide, if_pos (by decide), B207_1, if_pos (by decide), B207_12]
