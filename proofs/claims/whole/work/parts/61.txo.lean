/-! ===== text ===== -/
theorem S37_Sc {μ μ' : amM} (h : same S37 μ μ') : same ScC μ μ' := by
  refine h.wide (fun c i q => ?_)
  unfold S37
  by_cases e : c = 37
  · subst e
    by_cases e2 : 1 ≤ i
    · obtain ⟨j, rfl⟩ := Nat.exists_eq_add_of_le e2
      rw [Nat.add_comm] at q
      cases q
    · rw [ble_f (show i < 1 by omega)]; rfl
  · by_cases e3 : c = 38
    · subst e3
      by_cases e2 : 2 ≤ i
      · obtain ⟨j, rfl⟩ := Nat.exists_eq_add_of_le e2
        rw [Nat.add_comm] at q
        cases q
      · rw [ble_f (show i < 2 by omega)]; rfl
    · by_cases e4 : c = 39
      · rw [e4] at q; cases q
      · rw [beq_f e, beq_f e3, beq_f e4]; rfl
theorem S37_F {μ μ' : amM} (h : same S37 μ μ') : same FC μ μ' := by
  refine h.wide (fun c i q => ?_)
  unfold S37
  by_cases e : c = 37
  · subst e
    by_cases e2 : 1 ≤ i
    · obtain ⟨j, rfl⟩ := Nat.exists_eq_add_of_le e2
      rw [Nat.add_comm] at q
      cases q
    · rw [ble_f (show i < 1 by omega)]; rfl
  · by_cases e3 : c = 38
    · subst e3
      by_cases e2 : 2 ≤ i
      · obtain ⟨j, rfl⟩ := Nat.exists_eq_add_of_le e2
        rw [Nat.add_comm] at q
        cases q
      · rw [ble_f (show i < 2 by omega)]; rfl
    · by_cases e4 : c = 39
      · rw [e4] at q; cases q
      · rw [beq_f e, beq_f e3, beq_f e4]; rfl
theorem td0_e (d : Nat) {p : List Int} {μ : amM} (hl : p.length ≤ 50) (h : μ 38 2 = (p.length : Int) ∧ ∀ i, i < p.length → μ 39 i = p.getD i 0) : ∃ μ', RD cr2 (d + 1) 57 [13, 38] μ = some (0, μ') ∧ (μ' 13 2 = (p.length : Int) ∧ ∀ i, i < p.length → μ' 14 i = p.getD i 0) ∧ same (fun c i => (Nat.beq c 13 && Nat.beq i 2) || Nat.beq c 14) μ μ' := by
  refine ⟨up (upr μ 14 (fun k => if 0 ≤ k ∧ k < 0 + 50 then μ 39 (0 + (k - 0)) else μ 14 k)) 13 2 (μ 38 2), ?_, ⟨?_, fun i hi => ?_⟩, (same.rf.upr (fun _ => rfl)).up rfl⟩
  · rw [M57]
    refine (gf0 (ci := 3) (k := 0) (x := 38) (v := 39) rfl rfl).trans ?_
    refine (gf0 (ci := 3) (k := 0) (x := 13) (v := 14) rfl rfl).trans ?_
    refine (cpy_p (x := 39) (y := 14) (i := 0) (j := 0) (n := 50) (by decide) (by decide)).trans ?_
    refine (gf1 (ci := 3) (k := 2) (x := 38) rfl rfl (by decide)).trans ?_
    refine (pf1 (ci := 3) (k := 2) (x := 13) rfl (by decide) rfl (by decide)).trans ?_
    rfl
  · exact (up_eq _ _ _ _).trans h.1
  · exact (cp_if (μ 39) (μ 14) (show i < 50 by omega)).trans (h.2 i hi)
theorem td1_e (d : Nat) {p : List Int} {μ : amM} (hl : p.length ≤ 50) (h : μ 38 2 = (p.length : Int) ∧ ∀ i, i < p.length → μ 39 i = p.getD i 0) : ∃ μ', RD cr2 (d + 1) 57 [16, 38] μ = some (0, μ') ∧ (μ' 16 2 = (p.length : Int) ∧ ∀ i, i < p.length → μ' 17 i = p.getD i 0) ∧ same (fun c i => (Nat.beq c 16 && Nat.beq i 2) || Nat.beq c 17) μ μ' := by
  refine ⟨up (upr μ 17 (fun k => if 0 ≤ k ∧ k < 0 + 50 then μ 39 (0 + (k - 0)) else μ 17 k)) 16 2 (μ 38 2), ?_, ⟨?_, fun i hi => ?_⟩, (same.rf.upr (fun _ => rfl)).up rfl⟩
  · rw [M57]
    refine (gf0 (ci := 3) (k := 0) (x := 38) (v := 39) rfl rfl).trans ?_
    refine (gf0 (ci := 3) (k := 0) (x := 16) (v := 17) rfl rfl).trans ?_
    refine (cpy_p (x := 39) (y := 17) (i := 0) (j := 0) (n := 50) (by decide) (by decide)).trans ?_
    refine (gf1 (ci := 3) (k := 2) (x := 38) rfl rfl (by decide)).trans ?_
    refine (pf1 (ci := 3) (k := 2) (x := 16) rfl (by decide) rfl (by decide)).trans ?_
    rfl
  · exact (up_eq _ _ _ _).trans h.1
  · exact (cp_if (μ 39) (μ 17) (show i < 50 by omega)).trans (h.2 i hi)
theorem text_c (d : Nat) {σ : St} {μ : amM} (ok : σ.Ok) (h : CI σ μ) (u : Int) : OC μ (RD cr2 (d + 190) 111 [0, u] μ) (textS σ u) := by
  have h50 := ok.1.2.1.1
  have e4 := h.1.2.1.1
  unfold textS
  rw [M111, isWithin_e, bnd_s, ifb]
  refine OC.cd (fun hu => ?_) (fun _ => (OC.no _ h (by decide) (by decide)).bi (fun _ _ => rfl))
  obtain ⟨n, rfl, hn⟩ := wi_n hu
  have hT := tl_TB ok.1
  obtain ⟨μ1, g1, g2, g3⟩ := fault_e (d + 2) (u := n) (by omega) hT (μ := μ) (fun i hi => by
    rw [tl_len] at hi
    rw [tl_get σ.k hi]
    exact h.1.2.1.2 i hi)
  rw [tl_len] at g1
  have g1 : RD cr2 (d + 189) 24 [37, 11, (σ.k.nb : Int), (n : Int)] μ = some ((if (pl n 60 0 0 (tl σ.k)).1 = true ∧ (pl n 60 0 0 (tl σ.k)).2.1 = [] then -1 else ((σ.k.nb - (pl n 60 0 0 (tl σ.k)).2.1.length : Nat) : Int)), μ1) := g1
  have s2 : same (or2 gX ScC) μ (up μ1 1 4 0) := (S37_Sc g2).r.up rfl
  have f2 : same FC μ (up μ1 1 4 0) := (S37_F g2).up rfl
  have h2 : CI σ.out (up μ1 1 4 0) := h.setX s2 ⟨rfl, fun i hi => absurd hi (Nat.not_lt_zero i)⟩
  rw [B111_1, e4, g1, bnd_s, wf_e, Int.toNat_natCast]
  by_cases q : (pl n 60 0 0 (tl σ.k)).1 = true ∧ (pl n 60 0 0 (tl σ.k)).2.1 = []
  · rw [if_pos q, if_pos q, if_pos rfl, B111_2]
    have hp : (cmp n (tl σ.k)).length ≤ 50 := cmp_len hT.1
    have g3' : (up μ1 1 4 0) 38 2 = ((cmp n (tl σ.k)).length : Int) ∧ ∀ i, i < (cmp n (tl σ.k)).length → (up μ1 1 4 0) 39 i = (cmp n (tl σ.k)).getD i 0 := g3
    by_cases q0 : n = 0
    · subst q0
      obtain ⟨μ3, k1, k2, k3⟩ := td0_e (d + 188) hp g3'
      have e1 : ∀ {f : Int → amR}, amQld cr2 23 (up μ1 1 4 0) 10 ((0 : Nat) : Int) f = f 13 := fun {f} => ql0 (t := 23) (x := 10) (i := 0) (v := 13) rfl (by decide) rfl
      rw [e1, if_pos (show amTg 13 = 3 from rfl), k1, bnd_s]
      have s3 : same (or2 gP ScC) (up μ1 1 4 0) μ3 := k3.wide (fun c i w => by
        have w := or2_l w
        unfold gP at w
        rw [Bool.or_eq_false_iff, Bool.or_eq_false_iff, Bool.and_eq_false_iff, Bool.or_eq_false_iff] at w
        rw [w.1.2, Bool.or_false]
        rcases w.1.1 with e | e
        · rw [e.1]; rfl
        · rw [e, Bool.and_false])
      have f3 : same FC (up μ1 1 4 0) μ3 := k3.wide (fun c i w => by
        by_cases e : c = 13
        · subst e
          by_cases e2 : i = 2
          · rw [e2] at w; cases w
          · rw [beq_f e2]; rfl
        · by_cases e2 : c = 14
          · rw [e2] at w; cases w
          · rw [beq_f e, beq_f e2]; rfl)
      refine ⟨μ3, rfl, ?_, f2.tr f3⟩
      show CI (σ.out.setP (tl σ.k) σ.k.x1) μ3
      exact h2.setP s3 ⟨k2, h2.1.2.2.2.1.2.keep k3 rfl (fun _ => rfl)⟩
    · have q1 : n = 1 := by omega
      subst q1
      obtain ⟨μ3, k1, k2, k3⟩ := td1_e (d + 188) hp g3'
      have e1 : ∀ {f : Int → amR}, amQld cr2 23 (up μ1 1 4 0) 10 ((1 : Nat) : Int) f = f 16 := fun {f} => ql0 (t := 23) (x := 10) (i := 1) (v := 16) rfl (by decide) rfl
      rw [e1, if_pos (show amTg 16 = 3 from rfl), k1, bnd_s]
      have s3 : same (or2 gP ScC) (up μ1 1 4 0) μ3 := k3.wide (fun c i w => by
        have w := or2_l w
        unfold gP at w
        rw [Bool.or_eq_false_iff, Bool.or_eq_false_iff, Bool.and_eq_false_iff, Bool.or_eq_false_iff] at w
        rw [w.2, Bool.or_false]
        rcases w.1.1 with e | e
        · rw [e.2]; rfl
        · rw [e, Bool.and_false])
      have f3 : same FC (up μ1 1 4 0) μ3 := k3.wide (fun c i w => by
        by_cases e : c = 16
        · subst e
          by_cases e2 : i = 2
          · rw [e2] at w; cases w
          · rw [beq_f e2]; rfl
        · by_cases e2 : c = 17
          · rw [e2] at w; cases w
          · rw [beq_f e, beq_f e2]; rfl)
      refine ⟨μ3, rfl, ?_, f2.tr f3⟩
      show CI (σ.out.setP σ.k.x0 (tl σ.k)) μ3
      exact h2.setP s3 ⟨h2.1.2.2.2.1.1.keep k3 rfl (fun _ => rfl), k2⟩
  · rw [if_neg q, if_neg q, if_neg (by omega), w32_i (by omega) (by omega)]
    exact ⟨_, rfl, h2, f2⟩
theorem copyT (d : Nat) {u n : Nat} (hu : u < 2) (hn : n ≤ 50) (ν : amM) : ∀ (m i : Nat) (μ : amM), i + m = n → same (fun c j => Nat.beq c 72 && (Nat.ble (426 + 50 * u) j && Nat.ble j (475 + 50 * u))) ν μ → (∀ j, j < i → μ 72 (426 + 50 * u + j) = ν 72 (526 + j)) → ∃ μ', At cr2 d 171 3 [] [71, (u : Int), (n : Int), 0, (i : Int)] μ = some (1, μ') ∧ same (fun c j => Nat.beq c 72 && (Nat.ble (426 + 50 * u) j && Nat.ble j (475 + 50 * u))) ν μ' ∧ ∀ j, j < n → μ' 72 (426 + 50 * u + j) = ν 72 (526 + j)
  | 0, i, μ, hi, hs, hq => by
    have hi : i = n := by omega
    subst hi
    rw [B171_3, if_neg (by omega), B171_4]
    exact ⟨μ, rfl, hs, hq⟩
  | m + 1, i, μ, hi, hs, hq => by
    have e : μ 72 (526 + i) = ν 72 (526 + i) := hs _ _ (by
      show (true && (Nat.ble (426 + 50 * u) (526 + i) && Nat.ble (526 + i) (475 + 50 * u))) = false
      rw [ble_f (a := 526 + i) (by omega), Bool.and_false]; rfl)
    rw [B171_3, if_pos (by omega), w32_i (x := 526 + (i : Int)) (by omega) (by omega), rd_p (by omega) (by omega), show ((526 : Int) + i).toNat = 526 + i by omega, w32_i (x := 50 * (u : Int)) (by omega) (by omega), w32_i (x := 426 + 50 * (u : Int)) (by omega) (by omega), w32_i (x := 426 + 50 * (u : Int) + i) (by omega) (by omega), wr_p (by omega) (by omega), show ((426 : Int) + 50 * (u : Int) + i).toNat = 426 + 50 * u + i by omega, w32_i (by omega) (by omega), e]
    refine copyT d hu hn ν m (i + 1) _ (by omega) (hs.up (by
      show (true && (Nat.ble (426 + 50 * u) (426 + 50 * u + i) && Nat.ble (426 + 50 * u + i) (475 + 50 * u))) = true
      rw [ble_t (by omega), ble_t (by omega)]; rfl)) (fun j hj => ?_)
    rw [up_if]
    by_cases q : j = i
    · rw [if_pos (by omega), q]
    · rw [if_neg (by omega)]; exact hq j (by omega)
theorem SWk_T {μ μ' : amM} (h : same SWk μ μ') : same STg μ μ' := h.wide (fun c i w => (Bool.or_eq_false_iff.mp w).1)
theorem hX_ok {σ : St} {μ : amM} (ok : σ.Ok) (h : MI σ μ) : MI σ.out (up μ 72 8 0) := h.setX ok (same.rf.up rfl) ⟨up_eq _ _ _ _, fun i hi => absurd hi (Nat.not_lt_zero i)⟩
theorem text_m (d : Nat) {σ : St} {μ : amM} (ok : σ.Ok) (h : MI σ μ) (u : Int) : OM μ (RD cr2 (d + 70) 171 [71, u] μ) (textS σ u) := by
  have h50 := ok.1.2.1.1
  have e8 := h.1.2.1.1
  unfold textS
  rw [M171, in_e, bnd_s, ifb]
  refine OM.cd (fun hu => ?_) (fun _ => (OM.no _ ok h (by decide) (by decide)).bi (fun _ _ => rfl))
  obtain ⟨n, rfl, hn⟩ := wi_n hu
  have hT := tl_TB ok.1
  have oko := out_ok ok
  have h1 := hX_ok ok h
  have q1 : ∀ i, i < (tl σ.k).length → (up μ 72 8 0) 72 (526 + i) = (tl σ.k).getD i 0 := fun i hi => by
    rw [tl_len] at hi
    rw [tl_get σ.k hi, up_if, if_neg (by omega)]
    exact h.1.2.1.2 i hi
  obtain ⟨v, μ2, a1, a2, a3, a4⟩ := mWork_e (d + 3) (u := n) (by omega) hT (base := 526) (by decide) q1
  rw [tl_len] at a1 a4
  have a1 : RD cr2 (d + 69) 169 [71, 526, (σ.k.nb : Int), (n : Int)] (up μ 72 8 0) = some (v, μ2) := a1
  have h2 : MI σ.out μ2 := h1.set0 oko (STg_Sc (SWk_T a2))
  have f2 : same FM μ μ2 := (same.rf.up rfl : same FM μ (up μ 72 8 0)).tr (STg_F (SWk_T a2))
  rw [B171_1, wf_e, e8, a1, bnd_s, Int.toNat_natCast]
  by_cases q : (pl n 60 0 0 (tl σ.k)).1 = true ∧ (pl n 60 0 0 (tl σ.k)).2.1 = []
  · obtain ⟨e7, -⟩ := a3 q
    have q2 : ∀ i, i < σ.k.nb → μ2 72 (526 + i) = (tl σ.k).getD i 0 := fun i hi => (a2 _ _ rfl).trans (q1 i (by rw [tl_len]; exact hi))
    obtain ⟨μ4, c1, c2, c3⟩ := copyT (d + 69) (u := n) (by omega) (n := σ.k.nb) h50 (up μ2 72 (404 + n) (σ.k.nb : Int)) σ.k.nb 0 _ (Nat.zero_add _) same.rf (fun j hj => absurd hj (Nat.not_lt_zero j))
    have hP1 : hP 72 (404 + n) = true := by
      show (true && (Nat.beq (404 + n) 404 || Nat.beq (404 + n) 405 || (Nat.ble 426 (404 + n) && Nat.ble (404 + n) 525))) = true
      have : n = 0 ∨ n = 1 := by omega
      rcases this with rfl | rfl <;> rfl
    have s4 : same hP μ2 μ4 := (same.rf.up hP1 : same hP μ2 (up μ2 72 (404 + n) (σ.k.nb : Int))).tr (c2.wide (fun c i w => by
      by_cases e : c = 72
      · subst e
        have w : (Nat.beq i 404 || Nat.beq i 405 || (Nat.ble 426 i && Nat.ble i 525)) = false := w
        rw [Bool.or_eq_false_iff] at w
        show (true && (Nat.ble (426 + 50 * n) i && Nat.ble i (475 + 50 * n))) = false
        by_cases g : 426 ≤ i ∧ i ≤ 525
        · rw [ble_t g.1, ble_t g.2] at w
          cases w.2
        · by_cases g2 : 426 ≤ i
          · rw [ble_f (a := i) (by omega), Bool.and_false]; rfl
          · rw [ble_f (a := 426 + 50 * n) (by omega)]; rfl
      · show (Nat.beq c 72 && _) = false
        rw [beq_f e]; rfl))
    have f4 : same FM μ2 μ4 := s4.wide (fun c i w => by
      unfold hP
      by_cases e : c = 72
      · subst e; cases w
      · rw [beq_f e]; rfl)
    have eT : ∀ i, i < (tl σ.k).length → μ4 72 (426 + 50 * n + i) = (tl σ.k).getD i 0 := fun i hi => by
      rw [tl_len] at hi
      rw [c3 i hi, up_if, if_neg (by omega)]
      exact q2 i hi
    have e404 : μ4 72 (404 + n) = ((tl σ.k).length : Int) := by
      rw [tl_len, c2 _ _ (by
        show (true && (Nat.ble (426 + 50 * n) (404 + n) && Nat.ble (404 + n) (475 + 50 * n))) = false
        rw [ble_f (by omega)]; rfl), up_eq]
    have oth : ∀ m : Nat, m < 2 → m ≠ n → ∀ {l : List Int}, l.length ≤ 50 → MX 72 m l μ2 → MX 72 m l μ4 := fun m hm hne {l} hl hx => by
      have k1 : ∀ i, i < l.length → up μ2 72 (404 + n) (σ.k.nb : Int) 72 (426 + 50 * m + i) = μ2 72 (426 + 50 * m + i) := fun i hi => by rw [up_if, if_neg (by omega)]
      refine ⟨?_, fun i hi => ?_⟩
      · rw [c2 _ _ (by
          show (true && (Nat.ble (426 + 50 * n) (404 + m) && Nat.ble (404 + m) (475 + 50 * n))) = false
          rw [ble_f (by omega)]; rfl), up_if, if_neg (by omega)]
        exact hx.1
      · rw [c2 _ _ (by
          show (true && (Nat.ble (426 + 50 * n) (426 + 50 * m + i) && Nat.ble (426 + 50 * m + i) (475 + 50 * n))) = false
          by_cases g : m < n
          · rw [ble_f (a := 426 + 50 * n) (by omega)]; rfl
          · rw [ble_f (a := 426 + 50 * m + i) (by omega), Bool.and_false]; rfl), k1 i hi]
        exact hx.2 i hi
    rw [if_pos q, e7, if_pos (by decide), B171_2, w32_i (by omega) (by omega), wr_p (by omega) (by omega), show ((404 : Int) + (n : Int)).toNat = 404 + n by omega]
    refine ⟨μ4, c1, ?_, f2.tr f4⟩
    show MI (if n = 0 then σ.out.setP (tl σ.k) σ.k.x1 else σ.out.setP σ.k.x0 (tl σ.k)) μ4
    by_cases q0 : n = 0
    · subst q0
      rw [if_pos rfl]
      exact h2.setP oko s4.l ⟨⟨e404, eT⟩, oth 1 (by decide) (by decide) ok.1.2.2.2.1.2.1 h2.1.2.2.2.1.2⟩
    · have q1 : n = 1 := by omega
      subst q1
      rw [if_neg (by decide)]
      exact h2.setP oko s4.l ⟨oth 0 (by decide) (by decide) ok.1.2.2.2.1.1.1 h2.1.2.2.2.1.1, ⟨e404, eT⟩⟩
  · have e7 := a4 q
    rw [if_neg q, e7, if_neg (by omega), w32_i (by omega) (by omega)]
    exact ⟨μ2, rfl, h2, f2⟩
