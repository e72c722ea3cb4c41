/-! ===== voices ===== -/
def vst0 (n x : Int) : Int × List Int := (w32 (x + n), [10])
def vst (n k x : Int) : Int × List Int := if k = 2 ∨ k = 5 then (w32 ((vst0 n x).1 * 3), 30 :: (vst0 n x).2) else vst0 n x
def vtu0 (m x : Int) : Int × List Int := (w32 (x - m), [12])
def vtu3 (m x : Int) : Int × List Int := (w32 (-(vtu0 m x).1), 40 :: (vtu0 m x).2)
def vtu (n m k x : Int) : Int × List Int := if k = 3 then vtu3 m x else if k = 6 then (bXor (vtu3 m x).1 n, 70 :: (vtu3 m x).2) else vtu0 m x
def vpa0 (n kd x : Int) : Int × List Int := (w32 ((vst n kd x).1 * 2), 11 :: (vst n kd x).2)
def vpa1 (n m kd x : Int) : Int × List Int := (w32 ((vpa0 n kd x).1 - (vtu n m kd 1).1), 20 :: ((vpa0 n kd x).2 ++ (vtu n m kd 1).2))
def vpa (n m kd k x : Int) : Int × List Int := if k = 1 then vpa1 n m kd x else if k = 4 then ((vpa1 n m kd (w32 (x + 1))).1, 50 :: (vpa1 n m kd (w32 (x + 1))).2) else vpa0 n kd x
def vte0 (n m kd x : Int) : Int × List Int := (bXor (vpa n m kd kd x).1 (vtu n m kd x).1, 13 :: ((vpa n m kd kd x).2 ++ (vtu n m kd x).2))
def vte (n m kd k x : Int) : Int × List Int := if k = 5 then (w32 ((vte0 n m kd x).1 - (vst n kd 2).1), 60 :: ((vte0 n m kd x).2 ++ (vst n kd 2).2)) else if k = 6 then (w32 ((vpa n m kd kd x).1 - (vte0 n m kd x).1), 71 :: ((vpa n m kd kd x).2 ++ (vte0 n m kd x).2)) else vte0 n m kd x
theorem vst_l (n k x : Int) : (vst n k x).2.length ≤ 2 := by
  unfold vst
  split
  · exact Nat.le_refl _
  · exact Nat.le_succ _
theorem vtu_l (n m k x : Int) : (vtu n m k x).2.length ≤ 3 := by
  unfold vtu
  split
  · exact Nat.le_succ _
  · split
    · exact Nat.le_refl _
    · show 1 ≤ 3
      decide
theorem vpa0_l (n kd x : Int) : (vpa0 n kd x).2.length ≤ 3 := by
  have := vst_l n kd x
  show (vst n kd x).2.length + 1 ≤ 3
  omega
theorem vpa1_l (n m kd x : Int) : (vpa1 n m kd x).2.length ≤ 7 := by
  have := vpa0_l n kd x
  have := vtu_l n m kd 1
  show ((vpa0 n kd x).2 ++ (vtu n m kd 1).2).length + 1 ≤ 7
  rw [List.length_append]
  omega
theorem vpa_l (n m kd k x : Int) : (vpa n m kd k x).2.length ≤ 8 := by
  unfold vpa
  split
  · have := vpa1_l n m kd x; omega
  · split
    · have := vpa1_l n m kd (w32 (x + 1))
      show (vpa1 n m kd (w32 (x + 1))).2.length + 1 ≤ 8
      omega
    · have := vpa0_l n kd x; omega
theorem vte0_l (n m kd x : Int) : (vte0 n m kd x).2.length ≤ 12 := by
  have := vpa_l n m kd kd x
  have := vtu_l n m kd x
  show ((vpa n m kd kd x).2 ++ (vtu n m kd x).2).length + 1 ≤ 12
  rw [List.length_append]
  omega
theorem vte_l (n m kd k x : Int) : (vte n m kd k x).2.length ≤ 21 := by
  have h0 := vte0_l n m kd x
  unfold vte
  split
  · have := vst_l n kd 2
    show ((vte0 n m kd x).2 ++ (vst n kd 2).2).length + 1 ≤ 21
    rw [List.length_append]
    omega
  · split
    · have := vpa_l n m kd kd x
      show ((vpa n m kd kd x).2 ++ (vte0 n m kd x).2).length + 1 ≤ 21
      rw [List.length_append]
      omega
    · omega
def SVc (c i : Nat) : Bool := (Nat.beq c 59 && Nat.beq i 1) || Nat.beq c 60
def VC (n m kd : Int) (tr : List Int) (μ : amM) : Prop := PV tr μ ∧ μ 59 2 = kd ∧ μ 59 3 = n ∧ μ 59 4 = m
/-- something is said -/
def SyC (n m kd : Int) (tr : List Int) (μ : amM) (r : amR) (g : Int × List Int) : Prop := ∃ μ', r = some (g.1, μ') ∧ VC n m kd (tr ++ g.2) μ' ∧ same SVc μ μ'
theorem PV_add {c1 i1 c2 : Nat} {tr : List Int} {b : Int} {μ : amM} (h1 : μ c1 i1 = (tr.length : Int)) (h2 : ∀ i, i < tr.length → μ c2 i = tr.getD i 0) (hne : c1 ≠ c2) : (up (up μ c2 tr.length b) c1 i1 ((tr.length : Int) + 1)) c1 i1 = ((tr ++ [b]).length : Int) ∧ ∀ i, i < (tr ++ [b]).length → (up (up μ c2 tr.length b) c1 i1 ((tr.length : Int) + 1)) c2 i = (tr ++ [b]).getD i 0 := by
  refine ⟨by rw [up_eq, List.length_append]; rfl, fun i hi => ?_⟩
  rw [List.length_append] at hi
  have hi : i < tr.length + 1 := hi
  rw [up_ne _ _ _ _ (Or.inl (fun e => hne e.symm)), up_if]
  by_cases q : i = tr.length
  · rw [if_pos q, q, getD_app_r]
  · rw [if_neg q, getD_app_l (by omega)]
    exact h2 i (by omega)
theorem note_e (d : Nat) {n m kd : Int} {tr : List Int} {μ : amM} (h : VC n m kd tr μ) (hl : tr.length < 40) (b : Int) : ∃ μ', RD cr2 (d + 1) 88 [59, b] μ = some (0, μ') ∧ VC n m kd (tr ++ [b]) μ' ∧ same SVc μ μ' := by
  obtain ⟨⟨h1, h2⟩, h3, h4, h5⟩ := h
  have e1 : up μ 60 tr.length b 59 1 = (tr.length : Int) := h1
  refine ⟨up (up μ 60 tr.length b) 59 1 ((tr.length : Int) + 1), ?_, ⟨PV_add h1 h2 (by decide), h3, h4, h5⟩, (same.rf.up rfl).up rfl⟩
  rw [M88, h1, if_pos (by omega), wr_p (by omega) (by omega), Int.toNat_natCast, wf_e, e1, w32_i (by omega) (by omega), B88_1]
def own4 (a act : Nat) : Int := amT1.getD (4 * a + act) 0
def abT (a : Nat) : Int := amT0.getD a 0
theorem ald301 {μ : amM} {i : Nat} (h : i < 28) {f : Int → amR} : amAld μ 301 (i : Int) f = f (amT1.getD i 0) := by
  unfold amAld
  rw [if_neg (by decide), if_pos (by decide), if_pos ⟨by omega, by show (i : Int) < 28; omega⟩]
  rfl
theorem ald300 {μ : amM} {i : Nat} (h : i < 7) {f : Int → amR} : amAld μ 300 (i : Int) f = f (amT0.getD i 0) := by
  unfold amAld
  rw [if_neg (by decide), if_pos (by decide), if_pos ⟨by omega, by show (i : Int) < 7; omega⟩]
  rfl
theorem own_0 (d : Nat) (act j : Int) (hj : j < 7) (μ : amM) : At cr2 d 87 1 [] [0, act, 0, j] μ = some (0, μ) := by
  rw [B87_1, if_pos hj, if_neg (by decide), B87_2]
  rfl
theorem own_s (d : Nat) {a act : Nat} (ha : 0 < a ∧ a < 7) (hc : act < 4) {j : Int} (h0 : 0 ≤ j) (hj : j < 7) (μ : amM) : At cr2 d 87 1 [] [0, (act : Int), (a : Int), j] μ = if own4 a act = 0 then At cr2 d 87 1 [] [0, (act : Int), abT a, j + 1] μ else some ((a : Int), μ) := by
  rw [B87_1, if_pos hj, if_pos (by omega), w32_i (x := 4 * (a : Int)) (by omega) (by omega), w32_i (by omega) (by omega), show 4 * (a : Int) + (act : Int) = ((4 * a + act : Nat) : Int) by omega, ald301 (by omega)]
  show (if own4 a act = 0 then _ else _) = _
  by_cases q : own4 a act = 0
  · rw [if_pos q, if_pos q, ald300 ha.2, w32_i (by omega) (by omega)]
    rfl
  · rw [if_neg q, if_neg q, B87_2]
    unfold jmax
    rw [if_neg (by omega)]
/-- whose body it is -/
def ow (a act : Nat) : Nat := match act with
  | 0 => if a = 2 ∨ a = 5 then 2 else 0
  | 1 => if a = 1 then 1 else if a = 4 then 4 else 0
  | 2 => if a = 3 then 3 else if a = 6 then 6 else 0
  | _ => if a = 5 then 5 else if a = 6 then 6 else 0

theorem owner_e (d : Nat) {a act : Nat} (ha : a < 7) (hc : act < 4) (μ : amM) : RD cr2 (d + 1) 87 [(a : Int), (act : Int)] μ = some ((ow a act : Int), μ) := by
  rw [M87]
  match a, ha, act, hc with
  | 0, _, 0, _ =>
    exact own_0 d _ 0 (by decide) μ
  | 0, _, 1, _ =>
    exact own_0 d _ 0 (by decide) μ
  | 0, _, 2, _ =>
    exact own_0 d _ 0 (by decide) μ
  | 0, _, 3, _ =>
    exact own_0 d _ 0 (by decide) μ
  | 1, _, 0, _ =>
    refine (own_s d (a := 1) (act := 0) (by decide) (by decide) (j := 0) (by decide) (by decide) μ).trans ?_
    refine (if_pos (by decide)).trans ?_
    exact own_0 d _ _ (by decide) μ
  | 1, _, 1, _ =>
    refine (own_s d (a := 1) (act := 1) (by decide) (by decide) (j := 0) (by decide) (by decide) μ).trans ?_
    exact if_neg (by decide)
  | 1, _, 2, _ =>
    refine (own_s d (a := 1) (act := 2) (by decide) (by decide) (j := 0) (by decide) (by decide) μ).trans ?_
    refine (if_pos (by decide)).trans ?_
    exact own_0 d _ _ (by decide) μ
  | 1, _, 3, _ =>
    refine (own_s d (a := 1) (act := 3) (by decide) (by decide) (j := 0) (by decide) (by decide) μ).trans ?_
    refine (if_pos (by decide)).trans ?_
    exact own_0 d _ _ (by decide) μ
  | 2, _, 0, _ =>
    refine (own_s d (a := 2) (act := 0) (by decide) (by decide) (j := 0) (by decide) (by decide) μ).trans ?_
    exact if_neg (by decide)
  | 2, _, 1, _ =>
    refine (own_s d (a := 2) (act := 1) (by decide) (by decide) (j := 0) (by decide) (by decide) μ).trans ?_
    refine (if_pos (by decide)).trans ?_
    exact own_0 d _ _ (by decide) μ
  | 2, _, 2, _ =>
    refine (own_s d (a := 2) (act := 2) (by decide) (by decide) (j := 0) (by decide) (by decide) μ).trans ?_
    refine (if_pos (by decide)).trans ?_
    exact own_0 d _ _ (by decide) μ
  | 2, _, 3, _ =>
    refine (own_s d (a := 2) (act := 3) (by decide) (by decide) (j := 0) (by decide) (by decide) μ).trans ?_
    refine (if_pos (by decide)).trans ?_
    exact own_0 d _ _ (by decide) μ
  | 3, _, 0, _ =>
    refine (own_s d (a := 3) (act := 0) (by decide) (by decide) (j := 0) (by decide) (by decide) μ).trans ?_
    refine (if_pos (by decide)).trans ?_
    exact own_0 d _ _ (by decide) μ
  | 3, _, 1, _ =>
    refine (own_s d (a := 3) (act := 1) (by decide) (by decide) (j := 0) (by decide) (by decide) μ).trans ?_
    refine (if_pos (by decide)).trans ?_
    exact own_0 d _ _ (by decide) μ
  | 3, _, 2, _ =>
    refine (own_s d (a := 3) (act := 2) (by decide) (by decide) (j := 0) (by decide) (by decide) μ).trans ?_
    exact if_neg (by decide)
  | 3, _, 3, _ =>
    refine (own_s d (a := 3) (act := 3) (by decide) (by decide) (j := 0) (by decide) (by decide) μ).trans ?_
    refine (if_pos (by decide)).trans ?_
    exact own_0 d _ _ (by decide) μ
  | 4, _, 0, _ =>
    refine (own_s d (a := 4) (act := 0) (by decide) (by decide) (j := 0) (by decide) (by decide) μ).trans ?_
    refine (if_pos (by decide)).trans ?_
    refine (own_s d (a := 1) (act := 0) (by decide) (by decide) (j := 0 + 1) (by decide) (by decide) μ).trans ?_
    refine (if_pos (by decide)).trans ?_
    exact own_0 d _ _ (by decide) μ
  | 4, _, 1, _ =>
    refine (own_s d (a := 4) (act := 1) (by decide) (by decide) (j := 0) (by decide) (by decide) μ).trans ?_
    exact if_neg (by decide)
  | 4, _, 2, _ =>
    refine (own_s d (a := 4) (act := 2) (by decide) (by decide) (j := 0) (by decide) (by decide) μ).trans ?_
    refine (if_pos (by decide)).trans ?_
    refine (own_s d (a := 1) (act := 2) (by decide) (by decide) (j := 0 + 1) (by decide) (by decide) μ).trans ?_
    refine (if_pos (by decide)).trans ?_
    exact own_0 d _ _ (by decide) μ
  | 4, _, 3, _ =>
    refine (own_s d (a := 4) (act := 3) (by decide) (by decide) (j := 0) (by decide) (by decide) μ).trans ?_
    refine (if_pos (by decide)).trans ?_
    refine (own_s d (a := 1) (act := 3) (by decide) (by decide) (j := 0 + 1) (by decide) (by decide) μ).trans ?_
    refine (if_pos (by decide)).trans ?_
    exact own_0 d _ _ (by decide) μ
  | 5, _, 0, _ =>
    refine (own_s d (a := 5) (act := 0) (by decide) (by decide) (j := 0) (by decide) (by decide) μ).trans ?_
    refine (if_pos (by decide)).trans ?_
    refine (own_s d (a := 2) (act := 0) (by decide) (by decide) (j := 0 + 1) (by decide) (by decide) μ).trans ?_
    exact if_neg (by decide)
  | 5, _, 1, _ =>
    refine (own_s d (a := 5) (act := 1) (by decide) (by decide) (j := 0) (by decide) (by decide) μ).trans ?_
    refine (if_pos (by decide)).trans ?_
    refine (own_s d (a := 2) (act := 1) (by decide) (by decide) (j := 0 + 1) (by decide) (by decide) μ).trans ?_
    refine (if_pos (by decide)).trans ?_
    exact own_0 d _ _ (by decide) μ
  | 5, _, 2, _ =>
    refine (own_s d (a := 5) (act := 2) (by decide) (by decide) (j := 0) (by decide) (by decide) μ).trans ?_
    refine (if_pos (by decide)).trans ?_
    refine (own_s d (a := 2) (act := 2) (by decide) (by decide) (j := 0 + 1) (by decide) (by decide) μ).trans ?_
    refine (if_pos (by decide)).trans ?_
    exact own_0 d _ _ (by decide) μ
  | 5, _, 3, _ =>
    refine (own_s d (a := 5) (act := 3) (by decide) (by decide) (j := 0) (by decide) (by decide) μ).trans ?_
    exact if_neg (by decide)
  | 6, _, 0, _ =>
    refine (own_s d (a := 6) (act := 0) (by decide) (by decide) (j := 0) (by decide) (by decide) μ).trans ?_
    refine (if_pos (by decide)).trans ?_
    refine (own_s d (a := 3) (act := 0) (by decide) (by decide) (j := 0 + 1) (by decide) (by decide) μ).trans ?_
    refine (if_pos (by decide)).trans ?_
    exact own_0 d _ _ (by decide) μ
  | 6, _, 1, _ =>
    refine (own_s d (a := 6) (act := 1) (by decide) (by decide) (j := 0) (by decide) (by decide) μ).trans ?_
    refine (if_pos (by decide)).trans ?_
    refine (own_s d (a := 3) (act := 1) (by decide) (by decide) (j := 0 + 1) (by decide) (by decide) μ).trans ?_
    refine (if_pos (by decide)).trans ?_
    exact own_0 d _ _ (by decide) μ
  | 6, _, 2, _ =>
    refine (own_s d (a := 6) (act := 2) (by decide) (by decide) (j := 0) (by decide) (by decide) μ).trans ?_
    exact if_neg (by decide)
  | 6, _, 3, _ =>
    refine (own_s d (a := 6) (act := 3) (by decide) (by decide) (j := 0) (by decide) (by decide) μ).trans ?_
    exact if_neg (by decide)

