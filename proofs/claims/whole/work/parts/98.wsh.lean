/-! ===== the fewest changes, the cheapest of them ===== -/
def fwl (W : Nat → Int) (t : Tn) (U : Nat → Bool) (made : Nat) : Nat → Nat → Int × Int
  | 0, _ => (-1, -1)
  | n + 1, x => if rf W x t U 0 (-1) = -1 then fwl W t U made n (x + 1) else (((made + x : Nat) : Int), rf W x t U 0 (-1))
theorem rf_B {k : K} (okk : k.Ok) {t : Tn} (ht : NDt k t) (x : Nat) (U : Nat → Bool) : -1 ≤ rf k.W x t U 0 (-1) ∧ rf k.W x t U 0 (-1) ≤ 198 * (x : Int) := by
  rw [← nd_rf x ht.1 (W_P okk ht) U]
  exact nd_B okk ht x U (QW_wl ht.1)
theorem fwl_B {k : K} (okk : k.Ok) {t : Tn} (ht : NDt k t) (U : Nat → Bool) (made : Nat) : ∀ n x, x + n ≤ 5 → -1 ≤ (fwl k.W t U made n x).2 ∧ (fwl k.W t U made n x).2 ≤ 1000
  | 0, _, _ => ⟨by show (-1 : Int) ≤ -1; decide, by show (-1 : Int) ≤ 1000; decide⟩
  | n + 1, x, hx => by
    have B := rf_B okk ht x U
    unfold fwl
    by_cases q : rf k.W x t U 0 (-1) = -1
    · rw [if_pos q]
      exact fwl_B okk ht U made n (x + 1) (by omega)
    · rw [if_neg q]
      exact ⟨B.1, by show rf k.W x t U 0 (-1) ≤ 1000; omega⟩
def Gfe (c i : Nat) : Bool := decide ((44 ≤ c ∧ c ≤ 47) ∨ (c = 48 ∧ 1 ≤ i) ∨ c = 15 ∨ c = 18 ∨ (c = 41 ∧ i = 5))
def Gfx (c i : Nat) : Bool := decide ((43 ≤ c ∧ c ≤ 48) ∨ c = 8 ∨ c = 15 ∨ c = 18 ∨ (c = 41 ∧ i = 5))
def Gws (c i : Nat) : Bool := decide ((43 ≤ c ∧ c ≤ 49) ∨ c = 8 ∨ c = 15 ∨ c = 18 ∨ (c = 41 ∧ 3 ≤ i))
theorem TC.w {S : Nat → Nat → Bool} {t : Tn} {μ μ' : amM} (h : TC 2 t μ) (hs : same S μ μ') (h1 : ∀ c i, 2 ≤ c → c ≤ 7 → S c i = false) : TC 2 t μ' := h.keep hs (fun _ _ _ => h1 _ _ (by decide) (by decide)) (fun _ => h1 _ _ (by decide) (by decide)) (fun _ => h1 _ _ (by decide) (by decide)) (fun _ => h1 _ _ (by decide) (by decide)) (fun _ => h1 _ _ (by decide) (by decide)) (fun _ => h1 _ _ (by decide) (by decide))
theorem few_l (d : Nat) {k : K} (okk : k.Ok) {t : Tn} {L : Nat → Bool} {made : Nat} (ht : NDt k t) : ∀ (n x : Nat) (μ : amM), made + x + n = 5 → TC 2 t μ → NDm k L μ → LQ 0 t.wl μ → ∃ μ', At cr2 (d + 17) 16 1 [] [41, (made : Int), (x : Int)] μ = some ((fwl k.W t L made n x).1, μ') ∧ ((fwl k.W t L made n x).1 ≠ -1 → μ' 41 5 = (fwl k.W t L made n x).2) ∧ same Gfe μ μ'
  | 0, x, μ, hx, h, hm, hq => by
    have w : w32 ((made : Int) + (x : Int)) = ((made + x : Nat) : Int) := by
      rw [w32_i (by omega) (by omega)]; omega
    rw [B16_1, w, if_pos (by omega), B16_3]
    exact ⟨μ, rfl, fun w => absurd rfl w, same.rf⟩
  | n + 1, x, μ, hx, h, hm, hq => by
    have w : w32 ((made : Int) + (x : Int)) = ((made + x : Nat) : Int) := by
      rw [w32_i (by omega) (by omega)]; omega
    have wx : w32 ((x : Int) + 1) = ((x + 1 : Nat) : Int) := wi1 (by omega)
    obtain ⟨μ1, a1, a2⟩ := nd_c (d + 9 - 2 * x) okk x 0 t L t.wl μ (by omega) ht h hm (QW_wl ht.1) hq
    rw [show d + 9 - 2 * x + 2 * x + 8 = d + 17 by omega, nd_rf x ht.1 (W_P okk ht) L] at a1
    have a1 : RD cr2 (d + 17) 17 [41, 0, (x : Int)] μ = some (rf k.W x t L 0 (-1), μ1) := a1
    have s2 : same Gfe μ (up μ1 41 5 (rf k.W x t L 0 (-1))) := (a2.wide (fun c i q => dn (by
      have w := nd_of q
      omega)) : same Gfe μ μ1).up (decide_eq_true (by omega))
    rw [B16_1, w, if_neg (by omega), a1, bnd_s, wf_e, up_eq]
    unfold fwl
    by_cases q : rf k.W x t L 0 (-1) = -1
    · rw [if_pos q, if_pos q, B16_2, wx]
      obtain ⟨μ', g1, g2, g3⟩ := few_l d okk (L := L) (made := made) ht n (x + 1) (up μ1 41 5 (rf k.W x t L 0 (-1))) (by omega) (h.w s2 (fun _ _ _ _ => dn (by omega))) (hm.lk s2 (dn (by omega)) (fun _ => dn (by omega)) (dn (by omega)) (dn (by omega)) (fun l hl => (s2 _ _ (dn (by omega))).trans (hm.2.2.2 l hl))) ⟨(s2 _ _ (dn (by omega))).trans hq.1, fun i hi => (s2 _ _ (dn (by omega))).trans (hq.2 i hi)⟩
      exact ⟨μ', g1, g2, s2.tn g3⟩
    · rw [if_neg q, if_neg q]
      exact ⟨_, rfl, fun _ => up_eq _ _ _ _, s2⟩
theorem few_e (d : Nat) {k : K} (okk : k.Ok) {t : Tn} {L : Nat → Bool} {made n : Nat} (hn : made + n = 5) (ht : NDt k t) {μ : amM} (h : TC 2 t μ) (hm : NDm k L μ) : ∃ μ', RD cr2 (d + 18) 16 [41, (made : Int)] μ = some ((fwl k.W t L made n 0).1, μ') ∧ ((fwl k.W t L made n 0).1 ≠ -1 → μ' 41 5 = (fwl k.W t L made n 0).2) ∧ same Gfx μ μ' := by
  have h128 := ht.1.wl_le
  obtain ⟨μ1, a1, a2, a3⟩ := listWrong_e (d + 12) ht.1 h
  have a3 : same Gfx μ μ1 := a3.wide (fun c i q => by
    have w := nd_of q
    exact beq_f (by omega))
  have s2 : same Gfx μ (up μ1 48 0 ((t.wl.length : Nat) : Int)) := a3.up (decide_eq_true (by omega))
  have e4 : μ1 41 4 = 2 := (a3 _ _ (dn (by omega))).trans hm.2.2.1
  rw [M16, hm.2.2.1, if_pos rfl, a1, bnd_s, wf_e, up_ne _ _ _ _ (Or.inl (by decide)), e4, if_pos rfl, up_eq, cpy_p ⟨by decide, by decide⟩ ⟨by omega, by decide, by omega, show (0 : Int) + ((t.wl.length : Nat) : Int) ≤ 128 by omega, show (0 : Int) + ((t.wl.length : Nat) : Int) ≤ 128 by omega⟩]
  generalize hμ3 : upr _ _ _ = μ3
  have s3 : same Gfx μ μ3 := by
    rw [← hμ3]
    exact s2.upr (fun i => decide_eq_true (by show (43 ≤ 43 ∧ 43 ≤ 48) ∨ _; omega))
  have q3 : LQ 0 t.wl μ3 := by
    refine ⟨?_, fun i hi => ?_⟩
    · rw [← hμ3, upr_ne _ _ _ (by decide), up_eq]
    · rw [← hμ3]
      show upr _ 43 _ 43 i = _
      rw [upr_eq, if_pos ⟨Nat.zero_le _, by
        show i < 0 + ((t.wl.length : Nat) : Int).toNat
        omega⟩]
      show up μ1 48 0 _ 8 (0 + (i - 0)) = _
      rw [up_ne _ _ _ _ (Or.inl (by decide)), Nat.sub_zero, Nat.zero_add]
      exact a2 i hi
  obtain ⟨μ', g1, g2, g3⟩ := few_l d okk (L := L) (made := made) ht n 0 μ3 (by omega) (h.w s3 (fun _ _ _ _ => dn (by omega))) (hm.lk s3 (dn (by omega)) (fun _ => dn (by omega)) (dn (by omega)) (dn (by omega)) (fun l hl => (s3 _ _ (dn (by omega))).trans (hm.2.2.2 l hl))) q3
  exact ⟨μ', g1, g2, s3.tn (g3.wide (fun c i q => dn (by
    have w := nd_of q
    omega)))⟩
/-- the class begins: no mark is locked -/
def G49 (c _ : Nat) : Bool := decide (c = 49)
def Gbe (c i : Nat) : Bool := decide (c = 49 ∨ (c = 41 ∧ (i = 3 ∨ i = 4)))
theorem beg_l (d : Nat) : ∀ (n i : Nat) (μ : amM), i + n = 64 → (∀ l, l < i → μ 49 l = 0) → ∃ μ', At cr2 d 15 1 [] [41, 0, (i : Int)] μ = some (0, μ') ∧ (∀ l, l < 64 → μ' 49 l = 0) ∧ same G49 μ μ'
  | 0, i, μ, hi, h => by
    rw [B15_1, if_neg (by omega), B15_2]
    exact ⟨μ, rfl, fun l hl => h l (by omega), same.rf⟩
  | n + 1, i, μ, hi, h => by
    have wi : w32 ((i : Int) + 1) = ((i + 1 : Nat) : Int) := wi1 (by omega)
    have i64 : i < 64 := by omega
    obtain ⟨μ', a, b, c⟩ := beg_l d n (i + 1) (up μ 49 i 0) (by omega) (fun l hl => by
      by_cases e : l = i
      · rw [e, up_eq]
      · rw [up_ne _ _ _ _ (Or.inr e)]
        exact h l (by omega))
    rw [B15_1, if_pos (by omega), wr_p (geI _) (ltI i64), Int.toNat_natCast, wi]
    exact ⟨μ', a, b, (same.rf.up (decide_eq_true rfl)).tn c⟩
theorem beg_e (d : Nat) (μ : amM) : ∃ μ', RD cr2 (d + 1) 15 [41, 1] μ = some (0, μ') ∧ μ' 41 3 = 1 ∧ μ' 41 4 = 2 ∧ (∀ l, l < 64 → μ' 49 l = 0) ∧ same Gbe μ μ' := by
  obtain ⟨μ', a, b, c⟩ := beg_l d 64 0 (up (up μ 41 3 1) 41 4 2) (by omega) (fun l hl => absurd hl (Nat.not_lt_zero l))
  rw [M15, wf_e, wf_e]
  refine ⟨μ', a, ?_, ?_, b, ((same.rf.up (decide_eq_true (by omega))).up (decide_eq_true (by omega))).tn (c.wide (fun c i q => dn (by
    have w := nd_of q
    omega)))⟩
  · rw [c _ _ (dn (by decide)), up_ne _ _ _ _ (Or.inr (by decide)), up_eq]
  · rw [c _ _ (dn (by decide)), up_eq]
def nol (_ : Nat) : Bool := false
def wsR (k : K) (l kk : Nat) (s : Int) : Int × Int := if mk (k.t.code l) kk = s then fwl k.W k.t (lk1 nol (4 * l + kk)) 0 5 0 else bif k.t.bound l then ((fwl k.W (k.t.turn l kk s) (lk1 nol (4 * l + kk)) 1 4 0).1, (fwl k.W (k.t.turn l kk s) (lk1 nol (4 * l + kk)) 1 4 0).2 + k.W (4 * l + kk)) else (-1, -1)
def wishS (σ : St) (x k s w : Int) : Int × St := bif σ.t.isLot x then (bif isMS k s then (bif (decide (0 ≤ w) && decide (w ≤ 1)) then (bif σ.t.kind x.toNat == -1 then σ.no 2 else (if (wsR σ.k x.toNat k.toNat s).1 = -1 then σ.no 2 else if w = 0 then ((wsR σ.k x.toNat k.toNat s).1, σ) else ((wsR σ.k x.toNat k.toNat s).2, σ))) else σ.no 1) else σ.no 1) else σ.no 1
def rightS (σ : St) : Int × St := if (fwl σ.k.W σ.t nol 0 5 0).1 = -1 then σ.no 2 else ((fwl σ.k.W σ.t nol 0 5 0).1, σ)
theorem wishA_ok {σ : St} (ok : σ.Ok) (x k s w : Int) : (wishS σ x k s w).2.Ok := cd_ok (fun _ => cd_ok (fun _ => cd_ok (fun _ => cd_ok (fun _ => ok) (fun _ => if_ok (fun _ => ok) (fun _ => if_ok (fun _ => ok) (fun _ => ok)))) (fun _ => ok)) (fun _ => ok)) (fun _ => ok)
theorem right_ok {σ : St} (ok : σ.Ok) : (rightS σ).2.Ok := if_ok (fun _ => ok) (fun _ => ok)
theorem NDt.rf {k : K} (ok : k.Ok) : NDt k k.t := ⟨ok.1, fun _ => rfl, fun _ => rfl, rfl⟩
theorem lkm_n (l : Nat) : lkm nol l = 0 := by
  unfold lkm nol
  decide
theorem lkm_1 (l : Nat) {kk : Nat} (hk : kk < 4) : bShl 1 (kk : Int) = lkm (lk1 nol (4 * l + kk)) l := by
  rw [← lkm_s nol l hk, lkm_n]
  match kk, hk with
  | 0, _ => decide
  | 1, _ => decide
  | 2, _ => decide
  | 3, _ => decide
theorem Gws_Sc {μ μ' : amM} (h : same Gws μ μ') : same (or2 g0 ScC) μ μ' := h.wide (fun c i q => by
  have q := or2_r q
  refine dn (fun w => ?_)
  have : ScC c i = true := by
    unfold ScC
    by_cases e1 : 43 ≤ c ∧ c ≤ 49
    · rw [ble_t e1.1, ble_t e1.2]
      simp
    · by_cases e2 : c = 41 ∧ 3 ≤ i
      · rw [e2.1, ble_t e2.2]
        simp
      · have : c = 8 ∨ c = 15 ∨ c = 18 := by omega
        rcases this with rfl | rfl | rfl <;> simp
  rw [this] at q
  cases q)
theorem Gws_F {μ μ' : amM} (h : same Gws μ μ') : same FC μ μ' := h.wide (fun c i q => by
  refine dn (fun w => ?_)
  have : FC c i = true := by
    by_cases e2 : c = 41 ∧ 3 ≤ i
    · unfold FC
      rw [e2.1]
      match i, e2.2 with
      | j + 3, _ => rfl
    · have : c = 8 ∨ c = 15 ∨ c = 18 ∨ c = 43 ∨ c = 44 ∨ c = 45 ∨ c = 46 ∨ c = 47 ∨ c = 48 ∨ c = 49 := by omega
      rcases this with rfl | rfl | rfl | rfl | rfl | rfl | rfl | rfl | rfl | rfl <;> rfl
  rw [this] at q
  cases q)
theorem Gfx_w {μ μ' : amM} (h : same Gfx μ μ') : same Gws μ μ' := h.wide (fun c i q => dn (by
  have w := nd_of q
  omega))
theorem Gbe_w {μ μ' : amM} (h : same Gbe μ μ') : same Gws μ μ' := h.wide (fun c i q => dn (by
  have w := nd_of q
  omega))
theorem wsh_c (d : Nat) {σ : St} {μ : amM} (ok : σ.Ok) (h : CI σ μ) {l kk : Nat} (hl : l < σ.t.lots) (ne : σ.t.kind l ≠ -1) (hk : kk < 4) {s : Int} (hs : 0 ≤ s ∧ s < 4) : ∃ μ', RD cr2 (d + 19) 13 [41, 1, (l : Int), (kk : Int), s] μ = some ((wsR σ.k l kk s).1, μ') ∧ ((wsR σ.k l kk s).1 ≠ -1 → μ' 41 5 = (wsR σ.k l kk s).2) ∧ same Gws μ μ' := by
  have ht : NDt σ.k σ.t := NDt.rf ok.1
  have h64 := ok.t.le.2
  have l64 : l < 64 := Nat.lt_of_lt_of_le hl h64
  have cd := ((ok.t.2 l hl).2 ne).2.2
  have hk4 : (0 : Int) ≤ (kk : Int) ∧ (kk : Int) < 4 := by omega
  obtain ⟨μ1, a1, a2, a3, a4, a5⟩ := beg_e (d + 17) μ
  have s1 := Gbe_w a5
  have s2 : same Gws μ (up μ1 49 l (lkm (lk1 nol (4 * l + kk)) l)) := s1.up (decide_eq_true (by omega))
  have g2 : ∀ c i, c ≠ 49 → up μ1 49 l (lkm (lk1 nol (4 * l + kk)) l) c i = μ1 c i := fun c i hc => up_ne _ _ _ _ (Or.inl hc)
  have h2 : TC 2 σ.t (up μ1 49 l (lkm (lk1 nol (4 * l + kk)) l)) := h.tc.w s2 (fun _ _ _ _ => dn (by omega))
  have m2 : NDm σ.k (lk1 nol (4 * l + kk)) (up μ1 49 l (lkm (lk1 nol (4 * l + kk)) l)) := ⟨h.1.2.2.2.1.1.keep s2 (dn (by omega)) (fun _ => dn (by omega)), (g2 _ _ (by decide)).trans a2, (g2 _ _ (by decide)).trans a3, fun j hj => by
    by_cases e : j = l
    · rw [e, up_eq]
    · rw [up_ne _ _ _ _ (Or.inr e), a4 j hj, lkm_o _ hk e, lkm_n]⟩
  have e5 := ((h2.2.1 l hl).2 ne).2
  rw [M13, a1, bnd_s, wr_p (geI _) (ltI l64), Int.toNat_natCast, lkm_1 l hk, m2.2.2.1, if_pos rfl, rd_p (geI _) (ltI l64), Int.toNat_natCast, e5, sortAt_e _ _ cd hk4, bnd_s, Int.toNat_natCast]
  unfold wsR
  by_cases q : mk (σ.t.code l) kk = s
  · obtain ⟨μ', b1, b2, b3⟩ := few_e d ok.1 (L := lk1 nol (4 * l + kk)) (made := 0) (n := 5) rfl ht h2 m2
    have b1 : RD cr2 (d + 18) 16 [41, 0] _ = _ := b1
    rw [if_pos q, if_pos (show mk (σ.k.t.code l) kk = s from q), b1, bnd_s]
    exact ⟨μ', rfl, b2, s2.tn (Gfx_w b3)⟩
  · rw [if_neg q, if_neg (show ¬ mk (σ.k.t.code l) kk = s from q), B13_1, m2.2.2.1, if_pos rfl, canChange_e _ ok.t h2 hl hk, bnd_s]
    have ec : σ.t.can l kk s = σ.k.t.bound l := by
      unfold Tn.can
      rw [beq_false_of_ne q]
      show (σ.k.t.bound l && true) = _
      rw [Bool.and_true]
    rw [ec]
    cases hb : σ.k.t.bound l with
    | false =>
      rw [if_pos (by rfl)]
      exact ⟨_, rfl, fun w => absurd rfl w, s2⟩
    | true =>
      have h3 : TC 2 (σ.t.turn l kk s) (up (up μ1 49 l (lkm (lk1 nol (4 * l + kk)) l)) 5 l (ws (σ.t.code l) kk s)) := cod_c h2 hl ne _
      have m3 : NDm σ.k (lk1 nol (4 * l + kk)) (up (up μ1 49 l (lkm (lk1 nol (4 * l + kk)) l)) 5 l (ws (σ.t.code l) kk s)) := ⟨⟨(up_ne _ _ _ _ (Or.inl (by decide))).trans m2.1.1, fun i hi => (up_ne _ _ _ _ (Or.inl (by decide))).trans (m2.1.2 i hi)⟩, (up_ne _ _ _ _ (Or.inl (by decide))).trans m2.2.1, (up_ne _ _ _ _ (Or.inl (by decide))).trans m2.2.2.1, fun j hj => (up_ne _ _ _ _ (Or.inl (by decide))).trans (m2.2.2.2 j hj)⟩
      obtain ⟨μ4, b1, b2, b3⟩ := few_e d ok.1 (L := lk1 nol (4 * l + kk)) (made := 1) (n := 4) rfl (ht.turn hl ne hk hs) h3 m3
      have b1 : RD cr2 (d + 18) 16 [41, 1] _ = _ := b1
      have B := fwl_B ok.1 (ht.turn hl ne hk hs) (lk1 nol (4 * l + kk)) 1 4 0 (by decide)
      have WB := W_R ok.1 ht (m := 4 * l + kk) (by rw [show (4 * l + kk) / 4 = l by omega]; exact hb)
      have e4 : μ4 41 4 = 2 := (b3 _ _ (dn (by omega))).trans m3.2.2.1
      have s5 : same Gws μ (up μ4 5 l (σ.t.code l)) := fun c i g => by
        have w := nd_of g
        by_cases e : c = 5 ∧ i = l
        · rw [e.1, e.2, up_eq]
          exact ((h.tc.2.1 l hl).2 ne).2.symm
        · rw [up_ne _ _ _ _ (by omega), b3 c i (dn (by omega)), up_ne _ _ _ _ (by omega)]
          exact s2 c i g
      have h5 : TC 2 σ.t (up μ4 5 l (σ.t.code l)) := h.tc.w s5 (fun _ _ _ _ => dn (by omega))
      obtain ⟨μ6, c1, c2⟩ := costOf_e (d + 14) (k := σ.k.to σ.t) (μ := up μ4 5 l (σ.t.code l)) ⟨ok.t, ok.1.2⟩ h5 (h.1.2.2.2.1.1.keep s5 (dn (by omega)) (fun _ => dn (by omega))) hl ne kk
      have c1 : RD cr2 (d + 18) 44 [1, (l : Int), (kk : Int)] _ = some (K.cost (σ.k.to σ.t) l kk, μ6) := c1
      rw [cost_to ht hl hk] at c1
      have e6 : up μ4 5 l (σ.t.code l) 41 5 = μ4 41 5 := up_ne _ _ _ _ (Or.inl (by decide))
      have s6 : same Gws μ μ6 := s5.tn (c2.wide (fun c i q => by
        have w := nd_of q
        unfold SStk
        rw [beq_f (by omega), beq_f (by omega)]; rfl))
      rw [if_neg (by decide), B13_2, m2.2.2.1, if_pos rfl, withSort_e _ _ cd hk4 hs, bnd_s, Int.toNat_natCast, wr_p (geI _) (ltI l64), Int.toNat_natCast, b1, bnd_s, e4, if_pos rfl, wr_p (geI _) (ltI l64), Int.toNat_natCast, c1, bnd_s, wf_e, e6]
      refine ⟨_, rfl, fun w => ?_, s6.up (decide_eq_true (by omega))⟩
      have b2 := b2 w
      rw [up_eq, b2, w32_i (by omega) (by omega)]
      rfl
theorem wishA_c (d : Nat) {σ : St} {μ : amM} (ok : σ.Ok) (h : CI σ μ) (x k s w : Int) : OC μ (RD cr2 (d + 20) 113 [0, x, k, s, w] μ) (wishS σ x k s w) := by
  have no1 : OC μ (At cr2 (d + 19) 113 1 [] [0, 0, 0, 0, 0, 0] μ) (σ.no 1) := by
    rw [B113_1]
    exact (OC.no _ h (by decide) (by decide)).bi (fun _ _ => rfl)
  unfold wishS
  rw [M113, isLot_e _ ok h, bnd_s, ifb]
  refine OC.cd (fun hl => ?_) (fun _ => no1)
  rw [isMS_e, bnd_s, ifb]
  refine OC.cd (fun hm => ?_) (fun _ => no1)
  rw [isWithin_e, bnd_s, ifb]
  refine OC.cd (fun hw => ?_) (fun _ => no1)
  obtain ⟨n, rfl, hn⟩ := isLot_n hl
  obtain ⟨a, b, rfl, rfl, ha, hb⟩ := isMS_n hm
  rw [B113_2, isEmpty_e _ ok h hn, bnd_s, Int.toNat_natCast, Int.toNat_natCast, ifb]
  refine OC.cd (fun _ => (OC.no _ h (by decide) (by decide)).bi (fun _ _ => rfl)) (fun hk => ?_)
  have ne : σ.t.kind n ≠ -1 := fun e => by rw [e] at hk; cases hk
  obtain ⟨μ1, a1, a2, a3⟩ := wsh_c d ok h hn ne ha (s := (b : Int)) (by omega)
  have h1 : CI σ μ1 := h.set0 (Gws_Sc a3)
  rw [B113_3]
  refine OC.bs a1 (OC.tr ?_ (Gws_F a3))
  by_cases q : (wsR σ.k n a (b : Int)).1 = -1
  · rw [if_pos q, if_pos q]
    exact (OC.no _ h1 (by decide) (by decide)).bi (fun _ _ => rfl)
  · rw [if_neg q, if_neg q, B113_4]
    by_cases q2 : w = 0
    · rw [if_pos q2, if_pos q2, B113_6]
      exact OC.rt h1
    · rw [if_neg q2, if_neg q2, B113_5, a2 q, B113_6]
      exact OC.rt h1
theorem right_c (d : Nat) {σ : St} {μ : amM} (ok : σ.Ok) (h : CI σ μ) : OC μ (RD cr2 (d + 20) 115 [0] μ) (rightS σ) := by
  have ht : NDt σ.k σ.t := NDt.rf ok.1
  obtain ⟨μ1, a1, a2, a3, a4, a5⟩ := beg_e (d + 17) μ
  have s1 := Gbe_w a5
  have h1 : TC 2 σ.t μ1 := h.tc.w s1 (fun _ _ _ _ => dn (by omega))
  have m1 : NDm σ.k nol μ1 := ⟨h.1.2.2.2.1.1.keep s1 (dn (by omega)) (fun _ => dn (by omega)), a2, a3, fun j hj => by rw [a4 j hj, lkm_n]⟩
  obtain ⟨μ2, b1, b2, b3⟩ := few_e d ok.1 (L := nol) (made := 0) (n := 5) rfl ht h1 m1
  have b1 : RD cr2 (d + 18) 16 [41, 0] μ1 = some ((fwl σ.k.W σ.t nol 0 5 0).1, μ2) := b1
  have s2 : same Gws μ μ2 := s1.tn (Gfx_w b3)
  have h2 : CI σ μ2 := h.set0 (Gws_Sc s2)
  have c1 : RD cr2 (d + 19) 14 [41, 1] μ = some ((fwl σ.k.W σ.t nol 0 5 0).1, μ2) := by
    rw [M14, a1, bnd_s, b1, bnd_s]
  unfold rightS
  rw [M115]
  refine OC.bs c1 (OC.tr ?_ (Gws_F s2))
  by_cases q : (fwl σ.k.W σ.t nol 0 5 0).1 = -1
  · rw [if_pos q, if_pos q]
    exact (OC.no _ h2 (by decide) (by decide)).bi (fun _ _ => by rw [B115_2])
  · rw [if_neg q, if_neg q, B115_1, B115_2]
    exact OC.rt h2
