/-! ===== which houses go together, as the reference finds it; rows one house longer ===== -/
theorem w64_al (a b : Int) : w64 (w64 a + b) = w64 (a + b) := by
  unfold w64
  exact Int.bmod_add_bmod
theorem w64_ar (a b : Int) : w64 (a + w64 b) = w64 (a + b) := by
  rw [Int.add_comm, w64_al, Int.add_comm]
theorem w64_ml (a b : Int) : w64 (w64 a * b) = w64 (a * b) := by
  unfold w64
  exact Int.bmod_mul_bmod
theorem w64_mr (a b : Int) : w64 (a * w64 b) = w64 (a * b) := by
  rw [Int.mul_comm, w64_ml, Int.mul_comm]
theorem w64_0 : w64 0 = 0 := by decide
theorem w64_1 : w64 1 = 1 := by decide
theorem ab_step (d : Nat) {s : Int} {x y i : Nat} (hs : 0 ≤ s ∧ s ≤ 4) (hx : x < 81) (hy : y < 81) (hi : i < 4) (μ : amM) : At cr2 d 218 1 [] [0, 0, s, (x : Int), (y : Int), (i : Int)] μ = At cr2 d 218 1 [] [0, 0, s + (if x % 3 = y % 3 then 1 else 0), ((x / 3 : Nat) : Int), ((y / 3 : Nat) : Int), ((i + 1 : Nat) : Int)] μ := by
  have e1 : (x : Int).tmod 3 = ((x % 3 : Nat) : Int) := rfl
  have e2 : (y : Int).tmod 3 = ((y % 3 : Nat) : Int) := rfl
  have e3 : (x : Int).tdiv 3 = ((x / 3 : Nat) : Int) := rfl
  have e4 : (y : Int).tdiv 3 = ((y / 3 : Nat) : Int) := rfl
  rw [B218_1, if_pos (by omega), e1, e2]
  by_cases q : x % 3 = y % 3
  · rw [if_pos (by omega), if_pos q, B218_3, e3, e4, w32_i (x := s + 1) (by omega) (by omega), w32_i (x := ((x / 3 : Nat) : Int)) (by omega) (by omega), w32_i (x := ((y / 3 : Nat) : Int)) (by omega) (by omega), w32_i (x := (i : Int) + 1) (by omega) (by omega)]
    rfl
  · rw [if_neg (by omega), if_neg q, B218_2, B218_3, e3, e4, w32_i (x := s + 0) (by omega) (by omega), w32_i (x := ((x / 3 : Nat) : Int)) (by omega) (by omega), w32_i (x := ((y / 3 : Nat) : Int)) (by omega) (by omega), w32_i (x := (i : Int) + 1) (by omega) (by omega)]
    rfl
theorem one_if (p : Prop) [Decidable p] : (0 : Int) ≤ (if p then 1 else 0) ∧ (if p then (1 : Int) else 0) ≤ 1 := by
  by_cases q : p
  · rw [if_pos q]; decide
  · rw [if_neg q]; decide
theorem alikeBy_e (d : Nat) {a b : Nat} (ha : a < 81) (hb : b < 81) (μ : amM) : RD cr2 (d + 1) 218 [(a : Int), (b : Int)] μ = some (alk (hc (a : Int)) (hc (b : Int)), μ) := by
  have k0 := one_if (a % 3 = b % 3)
  have k1 := one_if (a / 3 % 3 = b / 3 % 3)
  have k2 := one_if (a / 3 / 3 % 3 = b / 3 / 3 % 3)
  have k3 := one_if (a / 3 / 3 / 3 % 3 = b / 3 / 3 / 3 % 3)
  have s0 := ab_step d (s := 0) (i := 0) (by decide) ha hb (by decide) μ
  have s1 := ab_step d (s := 0 + if a % 3 = b % 3 then 1 else 0) (i := 1) (by omega) (show a / 3 < 81 by omega) (show b / 3 < 81 by omega) (by decide) μ
  have s2 := ab_step d (s := (0 + if a % 3 = b % 3 then 1 else 0) + if a / 3 % 3 = b / 3 % 3 then 1 else 0) (i := 2) (by omega) (show a / 3 / 3 < 81 by omega) (show b / 3 / 3 < 81 by omega) (by decide) μ
  have s3 := ab_step d (s := ((0 + if a % 3 = b % 3 then 1 else 0) + if a / 3 % 3 = b / 3 % 3 then 1 else 0) + if a / 3 / 3 % 3 = b / 3 / 3 % 3 then 1 else 0) (i := 3) (by omega) (show a / 3 / 3 / 3 < 81 by omega) (show b / 3 / 3 / 3 < 81 by omega) (by decide) μ
  rw [M218]
  refine s0.trans (s1.trans (s2.trans (s3.trans ?_)))
  rw [B218_1, if_neg (by decide), B218_4]
  unfold alk
  rw [al1_dg ha hb (by decide), al1_dg ha hb (by decide), al1_dg ha hb (by decide), al1_dg ha hb (by decide)]
  have f0 : (a / 3 / 3 / 3 % 3 = b / 3 / 3 / 3 % 3) = (dg a 0 = dg b 0) := by
    show _ = (a / 27 = b / 27)
    rw [show a / 3 / 3 / 3 % 3 = a / 27 by omega, show b / 3 / 3 / 3 % 3 = b / 27 by omega]
  have f1 : (a / 3 / 3 % 3 = b / 3 / 3 % 3) = (dg a 1 = dg b 1) := by
    show _ = (a / 9 % 3 = b / 9 % 3)
    rw [show a / 3 / 3 = a / 9 by omega, show b / 3 / 3 = b / 9 by omega]
  simp only [f0, f1, show dg a 2 = a / 3 % 3 from rfl, show dg b 2 = b / 3 % 3 from rfl, show dg a 3 = a % 3 from rfl, show dg b 3 = b % 3 from rfl]
  have g : ∀ A B C D : Int, 0 + D + C + B + A = A + B + C + D := fun A B C D => by omega
  rw [g]
theorem same.tn {S : Nat → Nat → Bool} {μ μ1 μ2 : amM} (h : same S μ μ1) (k : same S μ1 μ2) : same S μ μ2 := fun c i q => (k c i q).trans (h c i q)
def S86 (c _ : Nat) : Bool := Nat.beq c 86
def GO (t : Tn) (μ : amM) : Prop := ∀ a b, a < 81 → b < 81 → μ 86 (81 * a + b) = t.G a b
theorem goes_in (d : Nat) {t : Tn} {a : Nat} (ha : a < 81) : ∀ (n j : Nat) (μ : amM), j + n = 81 → μ 72 3 = t.least → μ 72 4 = t.most → ∃ μ', At cr2 (d + 1) 219 2 [] [71, (a : Int), (j : Int)] μ = At cr2 (d + 1) 219 3 [] [71, (a : Int), 0] μ' ∧ (∀ k, j ≤ k → k < 81 → μ' 86 (81 * a + k) = t.G a k) ∧ (∀ p, p < 81 * a + j → μ' 86 p = μ 86 p) ∧ same S86 μ μ'
  | 0, j, μ, hj, h3, h4 => by
    rw [B219_2, if_neg (by omega)]
    exact ⟨μ, rfl, fun k _ _ => by omega, fun _ _ => rfl, same.rf⟩
  | n + 1, j, μ, hj, h3, h4 => by
    obtain ⟨μ', g1, g2, g3, g4⟩ := goes_in d (t := t) ha n (j + 1) (up μ 86 (81 * a + j) (t.G a j)) (by omega) ((up_ne _ _ _ _ (Or.inl (by decide))).trans h3) ((up_ne _ _ _ _ (Or.inl (by decide))).trans h4)
    refine ⟨μ', ?_, fun k hk1 hk2 => ?_, fun p hp => ?_, fun c i q => ?_⟩
    · rw [B219_2, if_pos (by omega), alikeBy_e d ha (by omega), bnd_s, h3, h4, in_e, bnd_s, w32_i (x := 81 * (a : Int)) (by omega) (by omega), w32_i (x := 81 * (a : Int) + j) (by omega) (by omega), w32_i (x := (j : Int) + 1) (by omega) (by omega)]
      unfold amPst
      rw [if_pos (by decide), if_pos ⟨by omega, show 81 * (a : Int) + j < 6561 by omega⟩, if_pos (by decide), if_pos (by
        generalize (decide (t.least ≤ alk (hc (a : Int)) (hc (j : Int))) && decide (alk (hc (a : Int)) (hc (j : Int)) ≤ t.most)) = b
        cases b
        · exact Or.inl rfl
        · exact Or.inr rfl), show (81 * (a : Int) + j).toNat = 81 * a + j by omega]
      exact g1
    · by_cases q : k = j
      · rw [q, g3 _ (by omega), up_eq]
      · exact g2 k (by omega) hk2
    · rw [g3 p (by omega), up_ne _ _ _ _ (Or.inr (by omega))]
    · rw [g4 c i q, up_ne]
      refine Or.inl (fun e => ?_)
      rw [e] at q
      cases q
theorem goes_out (d : Nat) {t : Tn} : ∀ (n a : Nat) (μ : amM), a + n = 81 → μ 72 3 = t.least → μ 72 4 = t.most → ∃ μ', At cr2 (d + 1) 219 1 [] [71, (a : Int), 0] μ = some (0, μ') ∧ (∀ a' b, a ≤ a' → a' < 81 → b < 81 → μ' 86 (81 * a' + b) = t.G a' b) ∧ (∀ p, p < 81 * a → μ' 86 p = μ 86 p) ∧ same S86 μ μ'
  | 0, a, μ, ha, h3, h4 => by
    rw [B219_1, if_neg (by omega), B219_4]
    exact ⟨μ, rfl, fun _ _ _ _ _ => by omega, fun _ _ => rfl, same.rf⟩
  | n + 1, a, μ, ha, h3, h4 => by
    obtain ⟨μ1, g1, g2, g3, g4⟩ := goes_in d (t := t) (show a < 81 by omega) 81 0 μ rfl h3 h4
    obtain ⟨μ', k1, k2, k3, k4⟩ := goes_out d (t := t) n (a + 1) μ1 (by omega) ((g4 _ _ rfl).trans h3) ((g4 _ _ rfl).trans h4)
    refine ⟨μ', ?_, fun a' b q1 q2 q3 => ?_, fun p hp => ?_, g4.tn k4⟩
    · rw [B219_1, if_pos (by omega)]
      refine g1.trans ?_
      rw [B219_3, w32_i (by omega) (by omega)]
      exact k1
    · by_cases q : a' = a
      · rw [q, k3 _ (by omega)]
        exact g2 b (by omega) q3
      · exact k2 a' b (by omega) q2 q3
    · rw [k3 p (by omega), g3 p (by omega)]
theorem findGoes_e (d : Nat) {t : Tn} {μ : amM} (h : TM 72 t μ) : ∃ μ', RD cr2 (d + 2) 219 [71] μ = some (0, μ') ∧ GO t μ' ∧ same S86 μ μ' := by
  obtain ⟨μ', g1, g2, g3, g4⟩ := goes_out d (t := t) 81 0 μ rfl h.1.2.2.2.1 h.1.2.2.2.2
  exact ⟨μ', (M219 _ _).trans g1, fun a b ha hb => g2 a b (by omega) ha hb, g4⟩
theorem GO.keep {t : Tn} {μ μ' : amM} {S : Nat → Nat → Bool} (h : GO t μ) (hs : same S μ μ') (h1 : ∀ i, S 86 i = false) : GO t μ' := fun a b ha hb => (hs _ _ (h1 _)).trans (h a b ha hb)
theorem GO.rd {t : Tn} {μ : amM} (h : GO t μ) {a b : Nat} (ha : a < 81) (hb : b < 81) {f : Int → amR} : rd 86 6561 μ (w32 ((w32 (81 * (a : Int))) + (b : Int))) f = f (t.G a b) := by
  rw [w32_i (x := 81 * (a : Int)) (by omega) (by omega), w32_i (x := 81 * (a : Int) + b) (by omega) (by omega), rd_p (by omega) (by omega), show (81 * (a : Int) + b).toNat = 81 * a + b by omega, h a b ha hb]
theorem G_01 (t : Tn) (a b : Nat) : t.G a b = 0 ∨ t.G a b = 1 := by
  unfold Tn.G
  cases t.go (hc (a : Int)) (hc (b : Int))
  · exact Or.inl rfl
  · exact Or.inr rfl
/-- the numbers of a row's cells, as they are written -/
def VW (c n : Nat) (v : Nat → Int) (μ : amM) : Prop := ∀ i, i < n → μ c i = w64 (v i)
def S85 (b c i : Nat) : Bool := Nat.beq c 85 && Nat.beq i b
def S845 (c _ : Nat) : Bool := Nat.beq c 84 || Nat.beq c 85
theorem on_in (d : Nat) {t : Tn} {v : Nat → Int} {b : Nat} (hb : b < 81) : ∀ (n a : Nat) (μ : amM), a + n = 81 → GO t μ → VW 84 81 v μ → μ 85 b = w64 (sm a (fun a => t.G a b * v a)) → ∃ μ', At cr2 d 220 2 [] [71, (b : Int), (a : Int)] μ = At cr2 d 220 5 [] [71, (b : Int), 0] μ' ∧ μ' 85 b = w64 (t.nx v b) ∧ same (S85 b) μ μ'
  | 0, a, μ, ha, hg, hv, h => by
    rw [B220_2, if_neg (by omega)]
    refine ⟨μ, rfl, ?_, same.rf⟩
    rw [h, show a = 81 by omega]; rfl
  | n + 1, a, μ, ha, hg, hv, h => by
    have hs : same (S85 b) μ (up μ 85 b (w64 (sm (a + 1) (fun a => t.G a b * v a)))) := same.rf.up (by
      unfold S85
      rw [show Nat.beq 85 85 = true from rfl, show Nat.beq b b = true from Nat.beq_refl b]; rfl)
    have hv' : VW 84 81 v (up μ 85 b (w64 (sm (a + 1) (fun a => t.G a b * v a)))) := fun i hi => (hs _ _ rfl).trans (hv i hi)
    obtain ⟨μ', g1, g2, g3⟩ := on_in d hb n (a + 1) _ (by omega) (hg.keep hs (fun _ => rfl)) hv' (up_eq _ _ _ _)
    refine ⟨μ', ?_, g2, hs.tn g3⟩
    rw [B220_2, if_pos (by omega), rd_p (by omega) (by omega), Int.toNat_natCast, hg.rd (by omega) hb]
    have e4 : ∀ x : Int, w64 (μ 85 b + x) = w64 (sm a (fun a => t.G a b * v a) + x) := fun x => by rw [h, w64_al]
    rcases G_01 t a b with q | q
    · rw [if_pos q, B220_3, B220_4, wr_p (by omega) (by omega), Int.toNat_natCast, e4, w32_i (by omega) (by omega), show sm a (fun a => t.G a b * v a) + 0 = sm (a + 1) (fun a => t.G a b * v a) from by
        show _ = sm a _ + t.G a b * v a
        rw [q, Int.zero_mul]]
      exact g1
    · rw [if_neg (by rw [q]; decide), rd_p (by omega) (by omega), Int.toNat_natCast, hv a (by omega), B220_4, wr_p (by omega) (by omega), Int.toNat_natCast, e4, w64_ar, w32_i (by omega) (by omega), show sm a (fun a => t.G a b * v a) + v a = sm (a + 1) (fun a => t.G a b * v a) from by
        show _ = sm a _ + t.G a b * v a
        rw [q, Int.one_mul]]
      exact g1
theorem S85_e {b c i : Nat} (h : S85 b c i = true) : c = 85 ∧ i = b := by
  unfold S85 at h
  rw [Bool.and_eq_true] at h
  exact ⟨Nat.eq_of_beq_eq_true h.1, Nat.eq_of_beq_eq_true h.2⟩
def S5x (c _ : Nat) : Bool := Nat.beq c 85
theorem S85_w {b : Nat} {μ μ' : amM} (h : same (S85 b) μ μ') : same S5x μ μ' := h.wide (fun c i q => by
  cases e : S85 b c i with
  | false => rfl
  | true =>
    rw [(S85_e e).1] at q
    exact q)
theorem on_out (d : Nat) {t : Tn} {v : Nat → Int} : ∀ (n b : Nat) (μ : amM), b + n = 81 → GO t μ → VW 84 81 v μ → VW 85 b (t.nx v) μ → ∃ μ', At cr2 d 220 1 [] [71, (b : Int), 0] μ = At cr2 d 220 6 [] [71, 0, 0] μ' ∧ VW 85 81 (t.nx v) μ' ∧ same S5x μ μ'
  | 0, b, μ, hb, hg, hv, h => by
    rw [B220_1, if_neg (by omega)]
    rw [show b = 81 by omega] at h
    exact ⟨μ, rfl, h, same.rf⟩
  | n + 1, b, μ, hb, hg, hv, h => by
    have hs : same S5x μ (up μ 85 b 0) := same.rf.up rfl
    obtain ⟨μ1, g1, g2, g3⟩ := on_in d (t := t) (v := v) (show b < 81 by omega) 81 0 (up μ 85 b 0) rfl (hg.keep hs (fun _ => rfl)) (fun i hi => (hs _ _ rfl).trans (hv i hi)) ((up_eq _ _ _ _).trans w64_0.symm)
    have hs1 := hs.tn (S85_w g3)
    obtain ⟨μ', k1, k2, k3⟩ := on_out d n (b + 1) μ1 (by omega) (hg.keep hs1 (fun _ => rfl)) (fun i hi => (hs1 _ _ rfl).trans (hv i hi)) (fun i hi => by
      by_cases q : i = b
      · rw [q]; exact g2
      · rw [g3 85 i (by
          cases e : S85 b 85 i with
          | false => rfl
          | true => exact absurd (S85_e e).2 q), up_ne _ _ _ _ (Or.inr q)]
        exact h i (by omega))
    refine ⟨μ', ?_, k2, hs1.tn k3⟩
    rw [B220_1, if_pos (by omega), wr_p (by omega) (by omega), Int.toNat_natCast]
    refine g1.trans ?_
    rw [B220_5, w32_i (by omega) (by omega)]
    exact k1
theorem on_cpy (d : Nat) {w : Nat → Int} : ∀ (n b : Nat) (μ : amM), b + n = 81 → VW 85 81 w μ → VW 84 b w μ → ∃ μ', At cr2 d 220 7 [] [71, (b : Int), 0] μ = some (0, μ') ∧ VW 84 81 w μ' ∧ same S845 μ μ'
  | 0, b, μ, hb, hw, h => by
    rw [B220_7, if_neg (by omega), B220_8]
    rw [show b = 81 by omega] at h
    exact ⟨μ, rfl, h, same.rf⟩
  | n + 1, b, μ, hb, hw, h => by
    obtain ⟨μ', k1, k2, k3⟩ := on_cpy d (w := w) n (b + 1) (up μ 84 b (μ 85 b)) (by omega) (fun i hi => (up_ne _ _ _ _ (Or.inl (by decide))).trans (hw i hi)) (fun i hi => by
      by_cases q : i = b
      · rw [q, up_eq]; exact hw b (by omega)
      · rw [up_ne _ _ _ _ (Or.inr q)]
        exact h i (by omega))
    refine ⟨μ', ?_, k2, (same.rf.up rfl).tn k3⟩
    rw [B220_7, if_pos (by omega), rd_p (by omega) (by omega), wr_p (by omega) (by omega), Int.toNat_natCast, w32_i (by omega) (by omega)]
    exact k1
theorem S5x_w {μ μ' : amM} (h : same S5x μ μ') : same S845 μ μ' := h.wide (fun c i q => by
  unfold S845 at q
  rw [Bool.or_eq_false_iff] at q
  exact q.2)
theorem goesOn_e (d : Nat) {t : Tn} {v : Nat → Int} {μ : amM} (hg : GO t μ) (hv : VW 84 81 v μ) : ∃ μ', RD cr2 (d + 1) 220 [71] μ = some (0, μ') ∧ VW 84 81 (t.nx v) μ' ∧ same S845 μ μ' := by
  obtain ⟨μ1, g1, g2, g3⟩ := on_out d (t := t) (v := v) 81 0 μ rfl hg hv (fun i hi => by omega)
  obtain ⟨μ', k1, k2, k3⟩ := on_cpy d 81 0 μ1 rfl g2 (fun i hi => by omega)
  refine ⟨μ', ?_, k2, (S5x_w g3).tn k3⟩
  rw [M220]
  refine g1.trans ?_
  rw [B220_6]
  exact k1
