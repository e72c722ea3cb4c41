/-! ===== lots filled anew ===== -/
def Tn.E (t : Tn) : List Nat := (List.range t.lots).filter (fun l => t.kind l == -1)
def Tn.e (t : Tn) (i : Nat) : Nat := t.E.getD i 0
def Tn.ne (t : Tn) : Nat := t.E.length
theorem E_mem {t : Tn} {l : Nat} : l ∈ t.E ↔ l < t.lots ∧ t.kind l = -1 := by
  unfold Tn.E
  rw [List.mem_filter, List.mem_range]
  constructor
  · intro h
    exact ⟨h.1, eq_of_beq h.2⟩
  · intro h
    exact ⟨h.1, by rw [h.2]; rfl⟩
theorem e_lt {t : Tn} {i : Nat} (h : i < t.ne) : t.e i < t.lots ∧ t.kind (t.e i) = -1 := E_mem.mp (getD_mem 0 h)
theorem e_at {t : Tn} {l : Nat} (h : l < t.lots) (hk : t.kind l = -1) : ∃ i, i < t.ne ∧ t.e i = l := by
  obtain ⟨i, hi, e⟩ := List.getElem_of_mem (E_mem.mpr ⟨h, hk⟩)
  refine ⟨i, hi, ?_⟩
  unfold Tn.e
  rw [List.getD_eq_getElem?_getD, List.getElem?_eq_getElem hi]
  exact e
theorem e_inj {t : Tn} {i j : Nat} (hi : i < t.ne) (hj : j < t.ne) (h : t.e i = t.e j) : i = j := by
  have nd : t.E.Nodup := (List.nodup_range).filter _
  unfold Tn.e at h
  rw [List.getD_eq_getElem?_getD, List.getElem?_eq_getElem hi, List.getD_eq_getElem?_getD, List.getElem?_eq_getElem hj] at h
  have w := List.pairwise_iff_getElem.mp nd
  rcases Nat.lt_trichotomy i j with q | q | q
  · exact absurd h (w i j hi hj q)
  · exact q
  · exact absurd h.symm (w j i hj hi q)
theorem ne_le {t : Tn} (ok : t.Ok) : t.ne ≤ 64 := by
  have h64 := ok.le.2
  have := List.length_filter_le (fun l => t.kind l == -1) (List.range t.lots)
  rw [List.length_range] at this
  exact Nat.le_trans this h64
/-- the first lots filled -/
def Tn.ft (t : Tn) (nx : Nat → Nat) : Nat → Tn
  | 0 => t
  | p + 1 => (t.ft nx p).put (t.e p) 0 0 (hc ((nx p : Int) - 1))
theorem ft_lots (t : Tn) (nx : Nat → Nat) : ∀ p, (t.ft nx p).lots = t.lots
  | 0 => rfl
  | p + 1 => ft_lots t nx p
theorem ft_prs (t : Tn) (nx : Nat → Nat) : ∀ p, (t.ft nx p).prs = t.prs
  | 0 => rfl
  | p + 1 => ft_prs t nx p
theorem ft_dim (t : Tn) (nx : Nat → Nat) : ∀ p, (t.ft nx p).rows = t.rows ∧ (t.ft nx p).cols = t.cols ∧ (t.ft nx p).shape = t.shape ∧ (t.ft nx p).least = t.least ∧ (t.ft nx p).most = t.most
  | 0 => ⟨rfl, rfl, rfl, rfl, rfl⟩
  | p + 1 => ft_dim t nx p
theorem ft_ok {t : Tn} (ok : t.Ok) {nx : Nat → Nat} : ∀ p, (∀ j, j < p → 1 ≤ nx j ∧ nx j ≤ 81) → (t.ft nx p).Ok
  | 0, _ => ok
  | p + 1, h => by
    have := h p (by omega)
    exact (ft_ok ok p (fun j hj => h j (by omega))).put _ (by omega) (fun _ => ⟨by omega, by omega, hc_R (by omega)⟩)
theorem ft_congr {t : Tn} {nx nx' : Nat → Nat} : ∀ p, (∀ j, j < p → nx j = nx' j) → t.ft nx p = t.ft nx' p
  | 0, _ => rfl
  | p + 1, h => by
    show (t.ft nx p).put _ 0 0 _ = (t.ft nx' p).put _ 0 0 _
    rw [ft_congr p (fun j hj => h j (by omega)), h p (by omega)]
theorem ft_hole {t : Tn} {nx : Nat → Nat} {q : Nat} (hq : q < t.ne) : ∀ p, p ≤ q → (t.ft nx p).kind (t.e q) = -1
  | 0, _ => (e_lt hq).2
  | p + 1, h => by
    show ((t.ft nx p).put _ 0 0 _).kind _ = -1
    rw [put_kind_ne _ _ _ _ (fun e => by
      have := e_inj hq (show p < t.ne by omega) e
      omega)]
    exact ft_hole hq p (by omega)
theorem ft_out {t : Tn} {nx : Nat → Nat} {l : Nat} (hk : t.kind l ≠ -1) : ∀ p, p ≤ t.ne → (t.ft nx p).kind l = t.kind l ∧ (t.ft nx p).m l = t.m l ∧ (t.ft nx p).code l = t.code l
  | 0, _ => ⟨rfl, rfl, rfl⟩
  | p + 1, h => by
    have hn : l ≠ t.e p := fun e => hk (by rw [e]; exact (e_lt (show p < t.ne by omega)).2)
    have ih := ft_out (t := t) (nx := nx) hk p (by omega)
    exact ⟨(put_kind_ne _ _ _ _ hn).trans ih.1, (put_m_ne _ _ _ _ hn).trans ih.2.1, (put_code_ne _ _ _ _ hn).trans ih.2.2⟩
/-- all of them empty again -/
def Tn.em (t T : Tn) : Nat → Tn
  | 0 => T
  | i + 1 => (t.em T i).put (t.e i) (-1) 0 0
theorem em_ok {t T : Tn} (ok : T.Ok) : ∀ i, (t.em T i).Ok
  | 0 => ok
  | i + 1 => (em_ok ok i).put _ (by omega) (fun h => absurd rfl h)
theorem em_lots (t T : Tn) : ∀ i, (t.em T i).lots = T.lots
  | 0 => rfl
  | i + 1 => em_lots t T i
theorem em_dim (t T : Tn) : ∀ i, (t.em T i).rows = T.rows ∧ (t.em T i).cols = T.cols ∧ (t.em T i).shape = T.shape ∧ (t.em T i).least = T.least ∧ (t.em T i).most = T.most
  | 0 => ⟨rfl, rfl, rfl, rfl, rfl⟩
  | i + 1 => em_dim t T i
theorem em_in {t T : Tn} {j : Nat} : ∀ i, j < i → (t.em T i).kind (t.e j) = -1
  | 0, h => by omega
  | i + 1, h => by
    show ((t.em T i).put _ (-1) 0 0).kind _ = -1
    by_cases q : t.e j = t.e i
    · rw [q, put_kind_eq]
    · rw [put_kind_ne _ _ _ _ q]
      refine em_in i ?_
      by_cases e : j = i
      · exact absurd (by rw [e]) q
      · omega
theorem em_out {t T : Tn} {l : Nat} (hk : t.kind l ≠ -1) : ∀ i, i ≤ t.ne → (t.em T i).kind l = T.kind l ∧ (t.em T i).m l = T.m l ∧ (t.em T i).code l = T.code l
  | 0, _ => ⟨rfl, rfl, rfl⟩
  | i + 1, h => by
    have hn : l ≠ t.e i := fun e => hk (by rw [e]; exact (e_lt (show i < t.ne by omega)).2)
    have ih := em_out (t := t) (T := T) hk i (by omega)
    exact ⟨(put_kind_ne _ _ _ _ hn).trans ih.1, (put_m_ne _ _ _ _ hn).trans ih.2.1, (put_code_ne _ _ _ _ hn).trans ih.2.2⟩
theorem em_eqv {t : Tn} {nx : Nat → Nat} {p : Nat} (hp : p ≤ t.ne) : (t.em (t.ft nx p) t.ne).eqv t := by
  obtain ⟨a1, a2, a3, a4, a5⟩ := em_dim t (t.ft nx p) t.ne
  obtain ⟨b1, b2, b3, b4, b5⟩ := ft_dim t nx p
  refine ⟨⟨a1.trans b1, a2.trans b2, a3.trans b3, a4.trans b4, a5.trans b5⟩, fun l hl => ?_⟩
  rw [em_lots, ft_lots] at hl
  by_cases q : t.kind l = -1
  · obtain ⟨i, hi, rfl⟩ := e_at hl q
    rw [em_in _ hi, q]
    exact ⟨rfl, fun h => absurd rfl h⟩
  · obtain ⟨c1, c2, c3⟩ := em_out (t := t) (T := t.ft nx p) q t.ne (Nat.le_refl _)
    obtain ⟨d1, d2, d3⟩ := ft_out (t := t) (nx := nx) q p hp
    exact ⟨c1.trans d1, fun _ => ⟨c2.trans d2, c3.trans d3⟩⟩
/-- the search: place, tries so far, the next house of each place -/
def Tn.fl (t : Tn) : Nat → Nat → Nat → (Nat → Nat) → Nat × (Nat → Nat)
  | 0, _, _, nx => (2, nx)
  | n + 1, p, k, nx => if p = t.ne then (0, nx) else if nx p < 81 then (if k < 20000 then (if (t.ft nx p).may (t.e p) (hc (nx p : Int)) = true then t.fl n (p + 1) (k + 1) (nset (nset nx p (nx p + 1)) (p + 1) 0) else t.fl n p (k + 1) (nset nx p (nx p + 1))) else (4, nx)) else (if p = 0 then (2, nx) else t.fl n (p - 1) k nx)
def Tn.fr (t : Tn) : Nat × (Nat → Nat) := t.fl 40001 0 0 (fun _ => 0)
def fillS (σ : St) : Int × St := if σ.t.fr.1 = 0 then ((σ.t.ne : Int), σ.setT (σ.t.ft σ.t.fr.2 σ.t.ne)) else σ.no (σ.t.fr.1 : Int)
/-- what the numbers of the places are like -/
def NX (p : Nat) (nx : Nat → Nat) : Prop := (∀ j, j < p → 1 ≤ nx j ∧ nx j ≤ 81) ∧ nx p ≤ 81
theorem NX.on {p : Nat} {nx : Nat → Nat} (h : NX p nx) (h2 : nx p < 81) : NX (p + 1) (nset (nset nx p (nx p + 1)) (p + 1) 0) := by
  refine ⟨fun j hj => ?_, by rw [nset_eq]; omega⟩
  rw [nset_ne _ _ (by omega)]
  by_cases e : j = p
  · rw [e, nset_eq]; omega
  · rw [nset_ne _ _ e]
    exact h.1 j (by omega)
theorem NX.more {p : Nat} {nx : Nat → Nat} (h : NX p nx) (h2 : nx p < 81) : NX p (nset nx p (nx p + 1)) := by
  refine ⟨fun j hj => ?_, by rw [nset_eq]; omega⟩
  rw [nset_ne _ _ (by omega)]
  exact h.1 j hj
theorem NX.back {p : Nat} {nx : Nat → Nat} (h : NX p nx) (h2 : p ≠ 0) : NX (p - 1) nx := ⟨fun j hj => h.1 j (by omega), (h.1 (p - 1) (by omega)).2⟩
theorem fl_R (t : Tn) : ∀ (n p k : Nat) (nx : Nat → Nat), p ≤ t.ne → NX p nx → (t.fl n p k nx).1 = 0 ∧ NX t.ne (t.fl n p k nx).2 ∨ (t.fl n p k nx).1 = 2 ∨ (t.fl n p k nx).1 = 4
  | 0, _, _, _, _, _ => Or.inr (Or.inl rfl)
  | n + 1, p, k, nx, hp, h => by
    unfold Tn.fl
    by_cases q : p = t.ne
    · rw [if_pos q]
      rw [q] at h
      exact Or.inl ⟨rfl, h⟩
    · rw [if_neg q]
      by_cases q1 : nx p < 81
      · rw [if_pos q1]
        by_cases q2 : k < 20000
        · rw [if_pos q2]
          by_cases q3 : (t.ft nx p).may (t.e p) (hc (nx p : Int)) = true
          · rw [if_pos q3]
            exact fl_R t n (p + 1) (k + 1) _ (by omega) (h.on q1)
          · rw [if_neg q3]
            exact fl_R t n p (k + 1) _ hp (h.more q1)
        · rw [if_neg q2]
          exact Or.inr (Or.inr rfl)
      · rw [if_neg q1]
        by_cases q2 : p = 0
        · rw [if_pos q2]
          exact Or.inr (Or.inl rfl)
        · rw [if_neg q2]
          exact fl_R t n (p - 1) k nx (by omega) (h.back q2)
theorem NX_0 : NX 0 (fun _ => 0) := ⟨fun j hj => by omega, Nat.zero_le _⟩
theorem fill_ok {σ : St} (ok : σ.Ok) : (fillS σ).2.Ok := by
  unfold fillS
  by_cases q : σ.t.fr.1 = 0
  · rw [if_pos q]
    rcases fl_R σ.t 40001 0 0 (fun _ => 0) (Nat.zero_le _) NX_0 with ⟨-, h⟩ | h | h
    · exact ok.setT (ft_ok ok.t _ h.1)
    · rw [show σ.t.fr.1 = 2 from h] at q; cases q
    · rw [show σ.t.fr.1 = 4 from h] at q; cases q
  · rw [if_neg q]
    exact ok
