/-! ===== wish, right: the reference ===== -/
def Gfm (c i : Nat) : Bool := decide ((c = 71 ∧ ((4 ≤ i ∧ i ≤ 9) ∨ i = 14 ∨ i = 15 ∨ i = 22 ∨ i = 23)) ∨ c = 75 ∨ (78 ≤ c ∧ c ≤ 82))
def Gwm (c i : Nat) : Bool := decide ((c = 71 ∧ ((4 ≤ i ∧ i ≤ 9) ∨ (13 ≤ i ∧ i ≤ 15) ∨ (21 ≤ i ∧ i ≤ 23))) ∨ (75 ≤ c ∧ c ≤ 82))
theorem Gre_fm {μ μ' : amM} (h : same (Gre 0) μ μ') : same Gfm μ μ' := h.wide (fun c i q => dn (by
  have w := nd_of q
  omega))
theorem Gfm_wm {μ μ' : amM} (h : same Gfm μ μ') : same Gwm μ μ' := h.wide (fun c i q => dn (by
  have w := nd_of q
  omega))
theorem STg_wm {μ μ' : amM} (h : same STg μ μ') : same Gwm μ μ' := Gfm_wm (Gre_fm (STg_G h))
theorem SP_wm {μ μ' : amM} (h : same SP μ μ') : same Gwm μ μ' := h.wide (fun c i q => by
  have w := nd_of q
  unfold SP
  rw [beq_false_of_ne (show c ≠ 76 by omega), beq_false_of_ne (show c ≠ 77 by omega), Bool.false_or, Bool.false_or]
  by_cases e : c = 71
  · rw [beq_false_of_ne (show i ≠ 13 by omega), Bool.and_false]
  · rw [beq_false_of_ne e, Bool.false_and])
theorem Gwm_Sc {μ μ' : amM} (h : same Gwm μ μ') : same (or2 h0 ScM) μ μ' := h.wide (fun c i q => by
  have q := or2_r q
  refine dn (fun w => ?_)
  have : ScM c i = true := by
    by_cases e1 : c = 71
    · have : i = 4 ∨ i = 5 ∨ i = 6 ∨ i = 7 ∨ i = 8 ∨ i = 9 ∨ i = 13 ∨ i = 14 ∨ i = 15 ∨ i = 21 ∨ i = 22 ∨ i = 23 := by omega
      rw [e1]
      rcases this with rfl | rfl | rfl | rfl | rfl | rfl | rfl | rfl | rfl | rfl | rfl | rfl <;> rfl
    · unfold ScM
      rw [ble_t (show 75 ≤ c by omega), ble_t (show c ≤ 89 by omega)]
      simp
  rw [this] at q
  cases q)
theorem Gwm_F {μ μ' : amM} (h : same Gwm μ μ') : same FM μ μ' := h.wide (fun c i q => by
  refine dn (fun w => ?_)
  have : FM c i = true := by
    by_cases e1 : c = 71
    · have : i = 4 ∨ i = 5 ∨ i = 6 ∨ i = 7 ∨ i = 8 ∨ i = 9 ∨ i = 13 ∨ i = 14 ∨ i = 15 ∨ i = 21 ∨ i = 22 ∨ i = 23 := by omega
      rw [e1]
      rcases this with rfl | rfl | rfl | rfl | rfl | rfl | rfl | rfl | rfl | rfl | rfl | rfl <;> rfl
    · have : c = 75 ∨ c = 76 ∨ c = 77 ∨ c = 78 ∨ c = 79 ∨ c = 80 ∨ c = 81 ∨ c = 82 := by omega
      rcases this with rfl | rfl | rfl | rfl | rfl | rfl | rfl | rfl <;> rfl
  rw [this] at q
  cases q)
theorem few_m (d : Nat) {k : K} (okk : k.Ok) {t : Tn} {U : Nat → Bool} {made : Nat} (ht : NDt k t) : ∀ (n x : Nat) (μ : amM), made + x + n = 5 → RMm k t U 0 μ → ∃ μ', At cr2 (d + 69) 208 1 [] [71, (made : Int), (x : Int), 0] μ = some (bi (!((fwl k.W t U made n x).1 == -1)), μ') ∧ ((fwl k.W t U made n x).1 ≠ -1 → μ' 71 22 = (fwl k.W t U made n x).1 ∧ μ' 71 23 = (fwl k.W t U made n x).2) ∧ same Gfm μ μ'
  | 0, x, μ, hx, h => by
    have w : w32 ((x : Int) + (made : Int)) = ((made + x : Nat) : Int) := by
      rw [w32_i (by omega) (by omega)]; omega
    rw [B208_1, w, if_pos (by omega), B208_3]
    exact ⟨μ, rfl, fun w => absurd rfl w, same.rf⟩
  | n + 1, x, μ, hx, h => by
    have w : w32 ((x : Int) + (made : Int)) = ((made + x : Nat) : Int) := by
      rw [w32_i (by omega) (by omega)]; omega
    have wx : w32 ((x : Int) + 1) = ((x + 1 : Nat) : Int) := wi1 (by omega)
    have B := rf_B okk ht x U
    obtain ⟨μ1, a1, a2⟩ := rf_e d okk (show x ≤ 4 by omega) ht h
    rw [B208_1, w, if_neg (by omega), a1, bnd_s]
    unfold fwl
    by_cases q : rf k.W x t U 0 (-1) = -1
    · rw [if_pos (by omega), if_pos q, B208_2, wx]
      obtain ⟨μ', g1, g2, g3⟩ := few_m d okk (U := U) (made := made) ht n (x + 1) μ1 (by omega) (h.keep a2)
      exact ⟨μ', g1, g2, (Gre_fm a2).tn g3⟩
    · rw [if_neg (by omega), if_neg q, wf_e, wf_e]
      refine ⟨up (up μ1 71 22 ((made + x : Nat) : Int)) 71 23 (rf k.W x t U 0 (-1)), ?_, fun _ => ⟨?_, ?_⟩, ((Gre_fm a2).up (decide_eq_true (by omega))).up (decide_eq_true (by omega))⟩
      · show _ = some (bi (!(((made + x : Nat) : Int) == -1)), _)
        rw [beq_false_of_ne (show ((made + x : Nat) : Int) ≠ -1 by omega)]
        rfl
      · rw [up_ne _ _ _ _ (Or.inr (by decide)), up_eq]
      · rw [up_eq]
theorem RMu.one {l kk : Nat} (hk : kk < 4) {μ : amM} (h : μ 71 21 = ((4 * l + kk : Nat) : Int)) : RMu (lk1 nol (4 * l + kk)) 0 μ := fun a b ha hb => by
  unfold lk1 nol
  rw [Bool.or_false, beq_iff_eq, h]
  constructor
  · intro e
    exact Or.inl (by rw [e])
  · rintro (e | ⟨j, j1, -⟩)
    · omega
    · omega
theorem RMu.none {μ : amM} (h : μ 71 21 = -1) : RMu nol 0 μ := fun a b ha hb => by
  unfold nol
  rw [h]
  constructor
  · intro e
    cases e
  · rintro (e | ⟨j, j1, -⟩)
    · omega
    · omega
theorem wsh_m (d : Nat) {σ : St} {μ : amM} (ok : σ.Ok) (h : MI σ μ) {l kk : Nat} (hl : l < σ.t.lots) (ne : σ.t.kind l ≠ -1) (hk : kk < 4) {s : Int} (hs : 0 ≤ s ∧ s < 4) : ∃ μ', RD cr2 (d + 71) 209 [71, (l : Int), (kk : Int), s] μ = some (bi (!((wsR σ.k l kk s).1 == -1)), μ') ∧ ((wsR σ.k l kk s).1 ≠ -1 → μ' 71 22 = (wsR σ.k l kk s).1 ∧ μ' 71 23 = (wsR σ.k l kk s).2) ∧ same Gwm μ μ' := by
  have ht : NDt σ.k σ.t := NDt.rf ok.1
  have h64 := ok.t.le.2
  have l64 : l < 64 := Nat.lt_of_lt_of_le hl h64
  have mm : RD cr2 (d + 70) 157 [71, (l : Int), (kk : Int)] μ = some (mk (σ.t.code l) kk, μ) := mMark_e (d + 69) ok.t h.tm hl hk ne
  have mk1 : RD cr2 (d + 70) 156 [71, (l : Int)] μ = some (σ.t.kind l, μ) := mKind_e (d + 69) ok.t h.tm hl
  have w4 : w32 ((w32 (4 * (l : Int))) + (kk : Int)) = ((4 * l + kk : Nat) : Int) := by
    rw [w32_i (x := 4 * (l : Int)) (by omega) (by omega), w32_i (by omega) (by omega)]
    omega
  obtain ⟨μ1, a1, a2, a3⟩ := findPairs_e (d + 68) ok.t h.tm
  have a1 : RD cr2 (d + 70) 175 [71] μ = some (0, μ1) := a1
  have s1 := SP_wm a3
  have s2 : same Gwm μ (up μ1 71 21 ((4 * l + kk : Nat) : Int)) := s1.up (decide_eq_true (by omega))
  have r2 : RMm σ.k σ.t (lk1 nol (4 * l + kk)) 0 (up μ1 71 21 ((4 * l + kk : Nat) : Int)) := ⟨h.tm.keep s2 (fun _ => dn (by omega)), a2.kp (up_ne _ _ _ _ (Or.inr (by decide))) (up_row _ _ _ _ (by decide)) (up_row _ _ _ _ (by decide)), h.1.2.2.2.1.1.keep s2 (dn (by omega)) (fun _ _ => dn (by omega)), RMu.one hk (up_eq _ _ _ _)⟩
  generalize hμ2 : up μ1 71 21 ((4 * l + kk : Nat) : Int) = μ2 at s2 r2
  have go1 : At cr2 (d + 70) 209 1 [] [71, (l : Int), (kk : Int), s, mk (σ.t.code l) kk, 0, 0] μ = if mk (σ.t.code l) kk = s then At cr2 (d + 70) 209 3 [0] [71, (l : Int), (kk : Int), s, mk (σ.t.code l) kk, 0, 0] μ2 else At cr2 (d + 70) 209 2 [] [71, (l : Int), (kk : Int), s, mk (σ.t.code l) kk, 0, 0] μ2 := by
    rw [B209_1, a1, bnd_s, w4, wf_e, hμ2]
  have e72 : ((r2.1.2 l hl).2 ne).2 kk hk = ((r2.1.2 l hl).2 ne).2 kk hk := rfl
  have e72 : μ2 72 (148 + 4 * l + kk) = mk (σ.t.code l) kk := ((r2.1.2 l hl).2 ne).2 kk hk
  rw [M209, mm, bnd_s]
  unfold wsR
  by_cases q : mk (σ.t.code l) kk = s
  · obtain ⟨μ3, b1, b2, b3⟩ := few_m d ok.1 (made := 0) ht 5 0 μ2 rfl r2
    have b1 : At cr2 (d + 69) 208 1 [] [71, 0, 0, 0] μ2 = some (bi (!((fwl σ.k.W σ.t (lk1 nol (4 * l + kk)) 0 5 0).1 == -1)), μ3) := b1
    have e3 : μ3 72 (148 + 4 * l + kk) = mk (σ.t.code l) kk := (b3 _ _ (dn (by omega))).trans e72
    have s3 := s2.tn (Gfm_wm b3)
    have B := fwl_B ok.1 ht (lk1 nol (4 * l + kk)) 0 5 0 (by decide)
    rw [if_pos q, go1, if_pos q, if_pos (show mk (σ.k.t.code l) kk = s from q), B209_3, sets_e _ ok.t hl hk, bnd_s, up_id (e72.trans q), if_pos q, B209_5, M208, b1, bnd_s, sets_e _ ok.t hl hk, bnd_s, up_id e3, wf_e, rb_bi]
    refine ⟨_, rfl, fun w => ?_, s3.up (decide_eq_true (by omega))⟩
    obtain ⟨c1, c2⟩ := b2 w
    refine ⟨?_, ?_⟩
    · rw [up_ne _ _ _ _ (Or.inr (by decide))]; exact c1
    · rw [up_eq, c2, Int.add_zero, w32_i (by omega) (by omega)]; rfl
  · rw [if_neg q, if_neg (show ¬ mk (σ.k.t.code l) kk = s from q), mk1, bnd_s]
    by_cases q5 : σ.t.kind l = 5
    · have hb : σ.k.t.bound l = false := by
        show (!(σ.t.kind l == -1) && !(σ.t.kind l == 5)) = false
        rw [q5]; rfl
      rw [if_pos q5, hb]
      exact ⟨μ, rfl, fun w => absurd rfl w, same.rf⟩
    · have hb : σ.k.t.bound l = true := by
        show (!(σ.t.kind l == -1) && !(σ.t.kind l == 5)) = true
        rw [beq_false_of_ne ne, beq_false_of_ne q5]; rfl
      obtain ⟨μ3, d1, d2⟩ := mcost_to (d + 2) ok.1 ht r2.1 r2.2.2.1 hl ne hk
      have d1 : RD cr2 (d + 70) 185 [71, (l : Int), (kk : Int)] μ2 = some (σ.k.W (4 * l + kk), μ3) := d1
      have s3 := s2.tn (STg_wm d2)
      have r3 := r2.keep (STg_G d2)
      have r4 := r3.turn ht hl ne hk hs
      obtain ⟨μ5, b1, b2, b3⟩ := few_m d ok.1 (made := 1) (ht.turn hl ne hk hs) 4 0 _ rfl r4
      have b1 : At cr2 (d + 69) 208 1 [] [71, 1, 0, 0] (up μ3 72 (148 + 4 * l + kk) s) = some (bi (!((fwl σ.k.W (σ.t.turn l kk s) (lk1 nol (4 * l + kk)) 1 4 0).1 == -1)), μ5) := b1
      have s5 : same Gwm μ (up μ5 72 (148 + 4 * l + kk) (mk (σ.t.code l) kk)) := fun c i g => by
        have w := nd_of g
        by_cases e : c = 72 ∧ i = 148 + 4 * l + kk
        · rw [e.1, e.2, up_eq]
          exact (((h.tm.2 l hl).2 ne).2 kk hk).symm
        · rw [up_ne _ _ _ _ (by omega), b3 c i (dn (by omega)), up_ne _ _ _ _ (by omega)]
          exact s3 c i g
      have B := fwl_B ok.1 (ht.turn hl ne hk hs) (lk1 nol (4 * l + kk)) 1 4 0 (by decide)
      have WB := W_R ok.1 ht (m := 4 * l + kk) (by rw [show (4 * l + kk) / 4 = l by omega]; exact hb)
      have e23 : up μ5 72 (148 + 4 * l + kk) (mk (σ.t.code l) kk) 71 23 = μ5 71 23 := up_ne _ _ _ _ (Or.inl (by decide))
      rw [if_neg q5, go1, if_neg q, B209_2, d1, bnd_s, B209_3, sets_e _ ok.t hl hk, bnd_s, if_neg q, B209_4, B209_5, M208, b1, bnd_s, sets_e _ ok.t hl hk, bnd_s, wf_e, e23, rb_bi, hb]
      refine ⟨_, rfl, fun w => ?_, s5.up (decide_eq_true (by omega))⟩
      obtain ⟨c1, c2⟩ := b2 w
      refine ⟨?_, ?_⟩
      · rw [up_ne _ _ _ _ (Or.inr (by decide)), up_ne _ _ _ _ (Or.inl (by decide))]; exact c1
      · rw [up_eq, c2, w32_i (by omega) (by omega)]; rfl
theorem wishA_m (d : Nat) {σ : St} {μ : amM} (ok : σ.Ok) (h : MI σ μ) (x k s w : Int) : OM μ (RD cr2 (d + 72) 210 [71, x, k, s, w] μ) (wishS σ x k s w) := by
  have no1 : OM μ (At cr2 (d + 71) 210 1 [] [71, 0, 0, 0, 0] μ) (σ.no 1) := by
    rw [B210_1]
    exact (OM.no _ ok h (by decide) (by decide)).bi (fun _ _ => rfl)
  unfold wishS
  rw [M210, mLot_e _ ok h, bnd_s, ifb]
  refine OM.cd (fun hl => ?_) (fun _ => no1)
  rw [mSort_e, bnd_s, ifb]
  refine OM.cd (fun hm => ?_) (fun _ => no1)
  rw [in_e, bnd_s, ifb]
  refine OM.cd (fun hw => ?_) (fun _ => no1)
  obtain ⟨n, rfl, hn⟩ := isLot_n hl
  obtain ⟨a, b, rfl, rfl, ha, hb⟩ := isMS_n hm
  rw [B210_2, mEmpty_e _ ok.t h.tm hn, bnd_s, Int.toNat_natCast, Int.toNat_natCast]
  cases hk : σ.t.kind n == -1 with
  | true =>
    rw [if_neg (by decide), B210_3]
    exact (OM.no _ ok h (by decide) (by decide)).bi (fun _ _ => rfl)
  | false =>
    have ne : σ.t.kind n ≠ -1 := fun e => by rw [e] at hk; cases hk
    obtain ⟨μ1, a1, a2, a3⟩ := wsh_m d ok h hn ne ha (s := (b : Int)) (by omega)
    have h1 : MI σ μ1 := h.set0 ok (Gwm_Sc a3)
    rw [if_pos (by rfl), cond_false]
    refine OM.bs a1 (OM.tr ?_ (Gwm_F a3))
    by_cases q : (wsR σ.k n a (b : Int)).1 = -1
    · rw [if_pos q, q, if_pos (by rfl), B210_3]
      exact (OM.no _ ok h1 (by decide) (by decide)).bi (fun _ _ => rfl)
    · obtain ⟨c1, c2⟩ := a2 q
      rw [if_neg q, beq_false_of_ne q, if_neg (by decide), B210_4]
      by_cases q2 : w = 0
      · rw [if_pos q2, if_pos q2, c1, B210_6]
        exact OM.rt h1
      · rw [if_neg q2, if_neg q2, B210_5, c2, B210_6]
        exact OM.rt h1
theorem right_m (d : Nat) {σ : St} {μ : amM} (ok : σ.Ok) (h : MI σ μ) : OM μ (RD cr2 (d + 71) 211 [71] μ) (rightS σ) := by
  have ht : NDt σ.k σ.t := NDt.rf ok.1
  obtain ⟨μ1, a1, a2, a3⟩ := findPairs_e (d + 68) ok.t h.tm
  have a1 : RD cr2 (d + 70) 175 [71] μ = some (0, μ1) := a1
  have s2 : same Gwm μ (up μ1 71 21 (-1)) := (SP_wm a3).up (decide_eq_true (by omega))
  have r2 : RMm σ.k σ.t nol 0 (up μ1 71 21 (-1)) := ⟨h.tm.keep s2 (fun _ => dn (by omega)), a2.kp (up_ne _ _ _ _ (Or.inr (by decide))) (up_row _ _ _ _ (by decide)) (up_row _ _ _ _ (by decide)), h.1.2.2.2.1.1.keep s2 (dn (by omega)) (fun _ _ => dn (by omega)), RMu.none (up_eq _ _ _ _)⟩
  obtain ⟨μ3, b1, b2, b3⟩ := few_m d ok.1 (made := 0) ht 5 0 _ rfl r2
  have b1 : At cr2 (d + 69) 208 1 [] [71, 0, 0, 0] (up μ1 71 21 (-1)) = some (bi (!((fwl σ.k.W σ.t nol 0 5 0).1 == -1)), μ3) := b1
  have s3 := s2.tn (Gfm_wm b3)
  have h3 : MI σ μ3 := h.set0 ok (Gwm_Sc s3)
  unfold rightS
  rw [M211, a1, bnd_s, wf_e, M208, b1, bnd_s]
  refine OM.tr ?_ (Gwm_F s3)
  by_cases q : (fwl σ.k.W σ.t nol 0 5 0).1 = -1
  · rw [if_pos q, q, if_pos (by rfl), B211_1]
    exact (OM.no _ ok h3 (by decide) (by decide)).bi (fun _ _ => by rw [B211_2])
  · obtain ⟨c1, c2⟩ := b2 q
    rw [if_neg q, beq_false_of_ne q, if_neg (by decide), c1, B211_2]
    exact OM.rt h3
