/-! ===== how a row was before, in the class ===== -/
def nl (n L : Nat) : Nat := if L + 1 < n then L + 1 else 0
def Tn.wk (t : Tn) (n : Nat) : Nat → Nat → (Nat → Int) → Nat → Int
  | 0, _, v => v
  | k + 1, L, v => t.wk n k (nl n L) (t.cx (L : Int) ((nl n L : Nat) : Int) v)
def en (n : Nat) : Nat → Nat → Nat
  | 0, L => L
  | k + 1, L => en n k (nl n L)
def Tn.fh (t : Tn) : Nat → Nat → Int
  | 0, _ => -1
  | n + 1, l => if t.kind l = -1 then t.fh n (l + 1) else (l : Int)
def Tn.isR (t : Tn) : Bool := decide (0 < t.shape) && decide (3 ≤ t.cols)
/-- all ways from a lot on, so many lots further -/
def Tn.ways (t : Tn) (s k : Nat) : Int := sm (t.opt ((en t.lots k s : Nat) : Int)) (t.wk t.lots k s (fun _ => 1))
def Tn.befV (t : Tn) : Int := bif t.isR then (if t.fh t.lots 0 = -1 then w64 (81 * t.nxs t.lots (dlt 0) 0) else w64 (t.ways (t.fh t.lots 0).toNat t.lots)) else w64 (t.ways 0 (t.lots - 1))
def beforeS (σ : St) : Int × St := if σ.t.rows = 1 then (σ.t.befV, σ) else σ.no 3
theorem before_ok {σ : St} (ok : σ.Ok) : (beforeS σ).2.Ok := if_ok (fun _ => ok) (fun _ => ok)
theorem nl_lt {n L : Nat} (h : 0 < n) : nl n L < n := by
  unfold nl
  by_cases q : L + 1 < n
  · rw [if_pos q]; exact q
  · rw [if_neg q]; exact h
theorem fh_lt (t : Tn) : ∀ (n l : Nat), t.fh n l = -1 ∧ (∀ k, l ≤ k → k < l + n → t.kind k = -1) ∨ ∃ s : Nat, t.fh n l = s ∧ l ≤ s ∧ s < l + n ∧ t.kind s ≠ -1
  | 0, l => Or.inl ⟨rfl, fun k _ _ => by omega⟩
  | n + 1, l => by
    unfold Tn.fh
    by_cases q : t.kind l = -1
    · rw [if_pos q]
      rcases fh_lt t n (l + 1) with ⟨h1, h2⟩ | ⟨s, h1, h2, h3, h4⟩
      · exact Or.inl ⟨h1, fun k k1 k2 => by
          by_cases e : k = l
          · rw [e]; exact q
          · exact h2 k (by omega) (by omega)⟩
      · exact Or.inr ⟨s, h1, by omega, by omega, h4⟩
    · rw [if_neg q]
      exact Or.inr ⟨l, rfl, by omega, by omega, q⟩
theorem first_e (d : Nat) {t : Tn} {μ : amM} (ok : t.Ok) (h : TC 2 t μ) : ∀ n l, l + n = t.lots → At cr2 d 93 1 [] [2, (l : Int)] μ = some (t.fh n l, μ)
  | 0, l, hl => by
    have e := h.1.2.2.2.1
    rw [B93_1, e, if_neg (by omega), B93_3]; rfl
  | n + 1, l, hl => by
    have e := h.1.2.2.2.1
    have h64 := ok.le.2
    rw [B93_1, e, if_pos (by omega), rd_p (by omega) (by omega), Int.toNat_natCast, (h.2.1 l (by omega)).1]
    unfold Tn.fh
    by_cases q : t.kind l = -1
    · rw [if_pos q, if_pos q, B93_2, w32_i (by omega) (by omega)]
      exact first_e d ok h n (l + 1) (by omega)
    · rw [if_neg q, if_neg q]
theorem vL_n {t : Tn} {l : Nat} (h : l < t.lots) : t.vL (l : Int) := Or.inr ⟨l, rfl, h⟩
theorem b6_c (d : Nat) {t : Tn} (ok : t.Ok) (x2 : Int) {s : Nat} (hs : s < t.lots) {p : Nat} : ∀ (n i : Nat) (μ : amM), i + n = t.opt (s : Int) → TC 2 t μ → PP p μ → VW p i (fun _ => 1) μ → ∃ μ', At cr2 (d + 2) 92 6 [] [55, 2, x2, 0, (s : Int), (i : Int), 0, 0, 0] μ = At cr2 (d + 2) 92 7 [] [55, 2, x2, 0, (s : Int), 0, 0, 0, 0] μ' ∧ VW p (t.opt (s : Int)) (fun _ => 1) μ' ∧ PP p μ' ∧ same SY μ μ'
  | 0, i, μ, hi, h, hp, hv => by
    rw [B92_6, opts_e d ok h (vL_n hs), bnd_s, if_neg (by omega)]
    rw [show i = t.opt (s : Int) by omega] at hv
    exact ⟨μ, rfl, hv, hp, same.rf⟩
  | n + 1, i, μ, hi, h, hp, hv => by
    have h81 := (opt_81 t (s : Int)).1
    obtain ⟨o1, o2, o3, o4, o5⟩ := hp.o
    have hs1 : same SY μ (up μ p i 1) := same.rf.up (SY_p hp.1 i)
    obtain ⟨μ', g1, g2, g3, g4⟩ := b6_c d ok x2 hs (p := p) n (i + 1) (up μ p i 1) (by omega) (h.ky hs1) ⟨hp.1, (up_ne _ _ _ _ (Or.inl (Ne.symm o3))).trans hp.2.1, (up_ne _ _ _ _ (Or.inl (Ne.symm o3))).trans hp.2.2⟩ (fun k hk => by
      by_cases q : k = i
      · rw [q, up_eq, w64_1]
      · rw [up_ne _ _ _ _ (Or.inr q)]
        exact hv k (by omega))
    have a1 : (0 : Int) ≤ (p : Int) := by omega
    refine ⟨μ', ?_, g2, g3, hs1.tn g4⟩
    rw [B92_6, opts_e d ok h (vL_n hs), bnd_s, if_pos (by omega), hp.2.1, if_pos a1, p78_st hp.1 (by omega), w32_i (by omega) (by omega)]
    exact g1
theorem b10_c (d : Nat) {t : Tn} (ok : t.Ok) {N : Nat} (hN : N ≤ 64) : ∀ (n i s : Nat) (v : Nat → Int) (p : Nat) (μ : amM), i + n = N → s < t.lots → TC 2 t μ → HC μ → PP p μ → VW p (t.opt (s : Int)) v μ → ∃ μ' p', At cr2 (d + 5) 92 10 [] [55, 2, 0, 0, (s : Int), (N : Int), (i : Int), 0, 0] μ = At cr2 (d + 5) 92 13 [] [55, 2, 0, 0, ((en t.lots n s : Nat) : Int), 0, 0, 0, 0] μ' ∧ VW p' (t.opt ((en t.lots n s : Nat) : Int)) (t.wk t.lots n s v) μ' ∧ PP p' μ' ∧ en t.lots n s < t.lots ∧ same SY μ μ'
  | 0, i, s, v, p, μ, hi, hs, h, hh, hp, hv => by
    rw [B92_10, if_neg (by omega)]
    exact ⟨μ, p, rfl, hv, hp, hs, same.rf⟩
  | n + 1, i, s, v, p, μ, hi, hs, h, hh, hp, hv => by
    have h64 := ok.le
    have hs' : nl t.lots s < t.lots := nl_lt (by omega)
    obtain ⟨μ1, g1, g2, g3, g4⟩ := carry_e d ok h hh (vL_n hs) (vL_n hs') hp hv
    obtain ⟨μ', p', k1, k2, k3, k4, k5⟩ := b10_c d ok hN n (i + 1) (nl t.lots s) _ (115 - p) μ1 (by omega) hs' (h.ky g4) (hh.ky g4) g3 g2
    refine ⟨μ', p', ?_, k2, k3, k4, g4.tn k5⟩
    have e12 : At cr2 (d + 5) 92 12 [((nl t.lots s : Nat) : Int)] [55, 2, 0, 0, (s : Int), (N : Int), (i : Int), 0, 0] μ = At cr2 (d + 5) 92 13 [] [55, 2, 0, 0, ((en t.lots (n + 1) s : Nat) : Int), 0, 0, 0, 0] μ' := by
      rw [B92_12, g1, bnd_s, w32_i (by omega) (by omega)]
      exact k1
    have e := h.1.2.2.2.1
    rw [B92_10, if_pos (by omega), w32_i (by omega) (by omega), e]
    unfold nl at e12
    by_cases q : s + 1 < t.lots
    · rw [if_pos q] at e12
      rw [if_pos (by omega)]
      exact e12
    · rw [if_neg q] at e12
      rw [if_neg (by omega), B92_11]
      exact e12
theorem b14_c (d : Nat) {t : Tn} (ok : t.Ok) {s : Nat} (hs : s < t.lots) {p : Nat} {v : Nat → Int} {μ : amM} (h : TC 2 t μ) (hp : PP p μ) (hv : VW p (t.opt (s : Int)) v μ) : ∀ (n i : Nat), i + n = t.opt (s : Int) → At cr2 (d + 2) 92 14 [] [55, 2, 0, 0, (s : Int), 0, w64 (sm i v), 0, (i : Int)] μ = some (w64 (sm (t.opt (s : Int)) v), μ)
  | 0, i, hi => by
    rw [B92_14, opts_e d ok h (vL_n hs), bnd_s, if_neg (by omega), B92_15, show i = t.opt (s : Int) by omega]
  | n + 1, i, hi => by
    have h81 := (opt_81 t (s : Int)).1
    have a1 : (0 : Int) ≤ (p : Int) := by omega
    rw [B92_14, opts_e d ok h (vL_n hs), bnd_s, if_pos (by omega), hp.2.1, if_pos a1, p78_ld hp.1 (by omega), hv i (by omega), w64_al, w64_ar, w32_i (by omega) (by omega)]
    exact b14_c d ok hs h hp hv n (i + 1) (by omega)
theorem b5_c (d : Nat) {t : Tn} {μ : amM} (ok : t.Ok) (h : TC 2 t μ) (hh : HC μ) {p : Nat} (hp : PP p μ) (R : Bool) {s : Nat} (hs : s < t.lots) : ∃ μ' p', At cr2 (d + 5) 92 5 [] [55, 2, bi R, (s : Int), 0, 0, 0, 0, 0] μ = some (w64 (t.ways s (bif R then t.lots else t.lots - 1)), μ') ∧ PP p' μ' ∧ same SY μ μ' := by
  have h64 := ok.le
  have e := h.1.2.2.2.1
  obtain ⟨μ1, a1, a2, a3, a4⟩ := b6_c (d + 3) ok (bi R) hs (p := p) (t.opt (s : Int)) 0 μ (by omega) h hp (fun i hi => by omega)
  obtain ⟨μ2, p', b1, b2, b3, b4, b5⟩ := b10_c d ok (N := bif R then t.lots else t.lots - 1) (by cases R <;> simp <;> omega) (bif R then t.lots else t.lots - 1) 0 s _ p μ1 (by omega) hs (h.ky a4) (hh.ky a4) a3 a2
  have hs2 := a4.tn b5
  have c1 := b14_c (d + 3) ok b4 (h.ky hs2) b3 b2 (t.opt ((en t.lots (bif R then t.lots else t.lots - 1) s : Nat) : Int)) 0 (by omega)
  refine ⟨μ2, p', ?_, b3, hs2⟩
  rw [B92_5]
  refine a1.trans ?_
  have e1 : μ1 2 10 = t.lots := (a4 _ _ rfl).trans e
  have e9 : At cr2 (d + 5) 92 9 [(((bif R then t.lots else t.lots - 1) : Nat) : Int)] [55, 2, 0, 0, (s : Int), 0, 0, 0, 0] μ1 = some (w64 (t.ways s (bif R then t.lots else t.lots - 1)), μ2) := by
    rw [B92_9]
    refine b1.trans ?_
    rw [B92_13]
    have e0 : w64 (sm 0 (t.wk t.lots (bif R then t.lots else t.lots - 1) s (fun _ => 1))) = 0 := w64_0
    rw [e0] at c1
    exact c1
  cases R with
  | true =>
    rw [B92_7, if_neg (by decide), e1]
    exact e9
  | false =>
    rw [B92_7, if_pos (by rfl), B92_8, e1, w32_i (by omega) (by omega), show (t.lots : Int) - 1 = ((t.lots - 1 : Nat) : Int) by omega]
    exact e9
theorem before_c (d : Nat) {σ : St} {μ : amM} (ok : σ.Ok) (h : CI σ μ) : OC μ (RD cr2 (d + 20) 118 [0] μ) (beforeS σ) := by
  have h64 := ok.t.le
  have ht := h.tc
  obtain ⟨p, hp⟩ := h.pp
  obtain ⟨e1, e2, e3, e4, -⟩ := ht.1
  have hr := ok.t.1
  unfold beforeS
  rw [M118, e1]
  by_cases q : σ.t.rows = 1
  · have hl : σ.t.lots = σ.t.cols := by
      unfold Tn.lots
      rw [q, Nat.one_mul]
    rw [if_pos (by omega), e4, if_neg (by omega), if_pos q, B118_2]
    have two : ∀ R : Bool, σ.t.isR = R → ∃ μ' p', At cr2 (d + 18) 92 2 [bi R] [55, 2, 0, 0, 0, 0, 0, 0, 0] μ = some (σ.t.befV, μ') ∧ PP p' μ' ∧ same SY μ μ' := fun R hR => by
      unfold Tn.befV
      rw [hR]
      cases R with
      | true =>
        have f93 : At cr2 (d + 17) 93 1 [] [2, 0] μ = some (σ.t.fh σ.t.lots 0, μ) := first_e (d + 17) ok.t ht σ.t.lots 0 (by omega)
        rw [B92_2, if_neg (by decide), M93, f93, bnd_s, B92_4, cond_true]
        rcases fh_lt σ.t σ.t.lots 0 with ⟨f1, -⟩ | ⟨s, f1, -, f3, -⟩
        · obtain ⟨μ', p', g1, g2, g3⟩ := ring91_e (d + 12) ok.t ht h.hc hp (N := σ.t.lots) (by omega)
          rw [f1, if_pos rfl, if_pos rfl, e4, g1, bnd_s]
          exact ⟨μ', p', rfl, g2, g3⟩
        · obtain ⟨μ', p', g1, g2, g3⟩ := b5_c (d + 13) ok.t ht h.hc hp true (s := s) (by omega)
          rw [f1, if_neg (by omega), if_neg (by omega), Int.toNat_natCast]
          exact ⟨μ', p', g1, g2, g3⟩
      | false =>
        obtain ⟨μ', p', g1, g2, g3⟩ := b5_c (d + 13) ok.t ht h.hc hp false (s := 0) (by omega)
        rw [B92_2, if_pos (by rfl), B92_3, B92_4, if_neg (by decide), cond_false]
        exact ⟨μ', p', g1, g2, g3⟩
    have all : ∃ μ' p', RD cr2 (d + 19) 92 [55, 2] μ = some (σ.t.befV, μ') ∧ PP p' μ' ∧ same SY μ μ' := by
      rw [M92, e3, e2]
      by_cases q1 : 0 < (σ.t.shape : Int)
      · rw [if_pos q1]
        by_cases q2 : (σ.t.cols : Int) < 3
        · rw [if_pos q2, B92_1]
          exact two false (by unfold Tn.isR; rw [decide_eq_false (p := 3 ≤ σ.t.cols) (by omega), Bool.and_false])
        · rw [if_neg q2]
          exact two true (by unfold Tn.isR; rw [decide_eq_true (p := 3 ≤ σ.t.cols) (by omega), decide_eq_true (p := 0 < σ.t.shape) (by omega)]; rfl)
      · rw [if_neg q1, B92_1]
        exact two false (by unfold Tn.isR; rw [decide_eq_false (p := 0 < σ.t.shape) (by omega), Bool.false_and])
    obtain ⟨μ', p', g1, g2, g3⟩ := all
    refine OC.bs g1 ?_
    exact ⟨μ', rfl, h.ky g3 g2, SY_F g3⟩
  · rw [if_neg (by omega), if_neg q, B118_1]
    exact (OC.no _ h (by decide) (by decide)).bi (fun _ _ => rfl)
