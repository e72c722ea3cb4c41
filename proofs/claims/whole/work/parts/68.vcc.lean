noncomputable def ch89 (d : Nat) (v1 v2 x3 x4 : Int) (μ2 : amM) : amR := (if v2 = 10 then At cr2 d 89 2 [] [59, 0, 0, x3, 0, 0, 0, 0] μ2 else if v2 = 11 then At cr2 d 89 3 [] [59, 0, 0, x3, 0, 0, 0, (w32 (x4 + 1))] μ2 else if v2 = 12 then At cr2 d 89 4 [] [59, 0, 0, x3, 0, 0, 0, 0] μ2 else if v2 = 13 then At cr2 d 89 5 [] [59, 0, 0, x3, 0, 0, 0, (w32 (x4 + 1))] μ2 else if v2 = 20 then At cr2 d 89 6 [] [59, 0, 0, x3, 0, v1, 0, (w32 (x4 + 1))] μ2 else if v2 = 30 then At cr2 d 89 7 [] [59, 0, 0, x3, 0, v1, 0, (w32 (x4 + 1))] μ2 else if v2 = 40 then At cr2 d 89 8 [] [59, 0, 0, x3, 0, v1, 0, (w32 (x4 + 1))] μ2 else if v2 = 50 then At cr2 d 89 9 [] [59, 0, 0, x3, 0, v1, 0, (w32 (x4 + 1))] μ2 else if v2 = 60 then At cr2 d 89 10 [] [59, 0, 0, x3, 0, v1, 0, (w32 (x4 + 1))] μ2 else if v2 = 70 then At cr2 d 89 11 [] [59, 0, 0, x3, 0, v1, 0, (w32 (x4 + 1))] μ2 else At cr2 d 89 12 [] [59, 0, 0, x3, 0, v1, 0, (w32 (x4 + 1))] μ2)
theorem say_pre (d : Nat) {n m kd : Int} {tr : List Int} {μ : amM} (h : VC n m kd tr μ) (hl : tr.length < 40) {a act o : Nat} (ha : a < 7) (hc : act < 4) (ho : ow a act = o) (ho7 : o < 7) {x dep : Int} (hd0 : 0 ≤ dep) (hd : dep < 30) : ∃ μ1, RD cr2 (d + 2) 89 [59, (a : Int), (act : Int), x, dep] μ = ch89 (d + 1) (o : Int) (own4 o act) x dep μ1 ∧ VC n m kd (tr ++ [own4 o act]) μ1 ∧ same SVc μ μ1 := by
  obtain ⟨μ1, g1, g2, g3⟩ := note_e d h hl (own4 o act)
  refine ⟨μ1, ?_, g2, g3⟩
  rw [M89, if_pos (by omega), B89_1, owner_e d ha hc, bnd_s, ho, w32_i (x := 4 * (o : Int)) (by omega) (by omega), w32_i (by omega) (by omega), show 4 * (o : Int) + (act : Int) = ((4 * o + act : Nat) : Int) by omega, ald301 (by omega)]
  show bnd (RD cr2 (d + 1) 88 [59, own4 o act] μ) _ = _
  rw [g1, bnd_s]
  rfl
theorem SyC.app {n m kd : Int} {tr : List Int} {b : Int} {g : Int × List Int} {v : Int} {μ μ1 : amM} {r : amR} (h : ∃ μ', r = some (v, μ') ∧ VC n m kd ((tr ++ [b]) ++ g.2) μ' ∧ same SVc μ1 μ') (hs : same SVc μ μ1) : SyC n m kd tr μ r (v, b :: g.2) := by
  obtain ⟨μ', a1, a2, a3⟩ := h
  refine ⟨μ', a1, ?_, hs.tr a3⟩
  rw [List.append_assoc] at a2
  exact a2
theorem say_st0 (d : Nat) {n m kd : Int} {tr : List Int} {μ : amM} (h : VC n m kd tr μ) (hl : tr.length < 40) {a : Nat} (ha : a < 7) (ho : ow a 0 = 0) {x dep : Int} (hd0 : 0 ≤ dep) (hd : dep < 30) : SyC n m kd tr μ (RD cr2 (d + 2) 89 [59, (a : Int), 0, x, dep] μ) (vst0 n x) := by
  obtain ⟨μ1, g1, g2, g3⟩ := say_pre d h hl ha (act := 0) (by decide) ho (by decide) (x := x) hd0 hd
  refine ⟨μ1, ?_, g2, g3⟩
  refine g1.trans ?_
  show At cr2 (d + 1) 89 2 [] [59, 0, 0, x, 0, 0, 0, 0] μ1 = _
  rw [B89_2, g2.2.2.1]
  rfl
theorem say_st (d : Nat) {n m kd : Int} {tr : List Int} {μ : amM} (h : VC n m kd tr μ) (hl : tr.length + 2 ≤ 40) {a : Nat} (ha : a < 7) {x dep : Int} (hd0 : 0 ≤ dep) (hd : dep < 20) : SyC n m kd tr μ (RD cr2 (d + 4) 89 [59, (a : Int), 0, x, dep] μ) (vst n a x) := by
  unfold vst
  by_cases q : a = 2 ∨ a = 5
  · have ho : ow a 0 = 2 := if_pos q
    obtain ⟨μ1, g1, g2, g3⟩ := say_pre (d + 2) h (by omega) ha (act := 0) (by decide) ho (by decide) (x := x) hd0 (by omega)
    obtain ⟨μ2, f1, f2, f3⟩ := say_st0 (d + 1) g2 (by rw [List.length_append, List.length_singleton]; omega) (a := 0) (by decide) rfl (x := x) (dep := dep + 1) (by omega) (by omega)
    have f1 : RD cr2 (d + 3) 89 [59, 0, 0, x, dep + 1] μ1 = some ((vst0 n x).1, μ2) := f1
    rw [if_pos (by omega)]
    refine SyC.app ⟨μ2, ?_, f2, f3⟩ g3
    refine g1.trans ?_
    show At cr2 (d + 3) 89 7 [] [59, 0, 0, x, 0, 2, 0, w32 (dep + 1)] μ1 = _
    rw [B89_7, w32_i (by omega) (by omega)]
    refine (ald300 (i := 2) (by decide)).trans ?_
    show bnd (RD cr2 (d + 3) 89 [59, 0, 0, x, dep + 1] μ1) _ = _
    rw [f1, bnd_s]
  · rw [if_neg (by omega)]
    exact say_st0 (d + 2) h (by omega) ha (if_neg q) hd0 (by omega)
theorem say_tu0 (d : Nat) {n m kd : Int} {tr : List Int} {μ : amM} (h : VC n m kd tr μ) (hl : tr.length < 40) {a : Nat} (ha : a < 7) (ho : ow a 2 = 0) {x dep : Int} (hd0 : 0 ≤ dep) (hd : dep < 30) : SyC n m kd tr μ (RD cr2 (d + 2) 89 [59, (a : Int), 2, x, dep] μ) (vtu0 m x) := by
  obtain ⟨μ1, g1, g2, g3⟩ := say_pre d h hl ha (act := 2) (by decide) ho (by decide) (x := x) hd0 hd
  refine ⟨μ1, ?_, g2, g3⟩
  refine g1.trans ?_
  show At cr2 (d + 1) 89 4 [] [59, 0, 0, x, 0, 0, 0, 0] μ1 = _
  rw [B89_4, g2.2.2.2]
  rfl
theorem say_tu3 (d : Nat) {n m kd : Int} {tr : List Int} {μ : amM} (h : VC n m kd tr μ) (hl : tr.length + 2 ≤ 40) {x dep : Int} (hd0 : 0 ≤ dep) (hd : dep < 25) : SyC n m kd tr μ (RD cr2 (d + 3) 89 [59, 3, 2, x, dep] μ) (vtu3 m x) := by
  obtain ⟨μ1, g1, g2, g3⟩ := say_pre (d + 1) h (by omega) (a := 3) (by decide) (act := 2) (by decide) (o := 3) rfl (by decide) (x := x) hd0 (by omega)
  obtain ⟨μ2, f1, f2, f3⟩ := say_tu0 d g2 (by rw [List.length_append, List.length_singleton]; omega) (a := 0) (by decide) rfl (x := x) (dep := dep + 1) (by omega) (by omega)
  have f1 : RD cr2 (d + 2) 89 [59, 0, 2, x, dep + 1] μ1 = some ((vtu0 m x).1, μ2) := f1
  refine SyC.app ⟨μ2, ?_, f2, f3⟩ g3
  refine g1.trans ?_
  show At cr2 (d + 2) 89 8 [] [59, 0, 0, x, 0, 3, 0, w32 (dep + 1)] μ1 = _
  rw [B89_8, w32_i (by omega) (by omega)]
  refine (ald300 (i := 3) (by decide)).trans ?_
  show bnd (RD cr2 (d + 2) 89 [59, 0, 2, x, dep + 1] μ1) _ = _
  rw [f1, bnd_s]
theorem say_tu (d : Nat) {n m kd : Int} {tr : List Int} {μ : amM} (h : VC n m kd tr μ) (hl : tr.length + 3 ≤ 40) {a : Nat} (ha : a < 7) {x dep : Int} (hd0 : 0 ≤ dep) (hd : dep < 20) : SyC n m kd tr μ (RD cr2 (d + 4) 89 [59, (a : Int), 2, x, dep] μ) (vtu n m a x) := by
  unfold vtu
  by_cases q3 : a = 3
  · subst q3
    rw [if_pos (by decide)]
    exact say_tu3 (d + 1) h (by omega) hd0 (by omega)
  · rw [if_neg (by omega)]
    by_cases q6 : a = 6
    · subst q6
      obtain ⟨μ1, g1, g2, g3⟩ := say_pre (d + 2) h (by omega) (a := 6) (by decide) (act := 2) (by decide) (o := 6) rfl (by decide) (x := x) hd0 (by omega)
      obtain ⟨μ2, f1, f2, f3⟩ := say_tu3 d g2 (by rw [List.length_append, List.length_singleton]; omega) (x := x) (dep := dep + 1) (by omega) (by omega)
      rw [if_pos (by decide)]
      refine SyC.app ⟨μ2, ?_, f2, f3⟩ g3
      refine g1.trans ?_
      show At cr2 (d + 3) 89 11 [] [59, 0, 0, x, 0, 6, 0, w32 (dep + 1)] μ1 = _
      rw [B89_11, w32_i (by omega) (by omega)]
      refine (ald300 (i := 6) (by decide)).trans ?_
      show bnd (RD cr2 (d + 3) 89 [59, 3, 2, x, dep + 1] μ1) _ = _
      rw [f1, bnd_s, f2.2.2.1]
    · rw [if_neg (by omega)]
      refine say_tu0 (d + 2) h (by omega) ha ?_ hd0 (by omega)
      show (if a = 3 then 3 else if a = 6 then 6 else 0) = 0
      rw [if_neg q3, if_neg q6]
theorem say_pa0 (d : Nat) {n m kd : Int} (hk : 0 ≤ kd ∧ kd < 7) {tr : List Int} {μ : amM} (h : VC n m kd tr μ) (hl : tr.length + 3 ≤ 40) {a : Nat} (ha : a < 7) (ho : ow a 1 = 0) {x dep : Int} (hd0 : 0 ≤ dep) (hd : dep < 18) : SyC n m kd tr μ (RD cr2 (d + 5) 89 [59, (a : Int), 1, x, dep] μ) (vpa0 n kd x) := by
  obtain ⟨μ1, g1, g2, g3⟩ := say_pre (d + 3) h (by omega) ha (act := 1) (by decide) ho (by decide) (x := x) hd0 (by omega)
  obtain ⟨μ2, f1, f2, f3⟩ := say_st d g2 (by rw [List.length_append, List.length_singleton]; omega) (a := kd.toNat) (by omega) (x := x) (dep := dep + 1) (by omega) (by omega)
  rw [Int.toNat_of_nonneg hk.1] at f1 f2
  refine SyC.app ⟨μ2, ?_, f2, f3⟩ g3
  refine g1.trans ?_
  show At cr2 (d + 4) 89 3 [] [59, 0, 0, x, 0, 0, 0, w32 (dep + 1)] μ1 = _
  rw [B89_3, w32_i (by omega) (by omega), g2.2.1, f1, bnd_s]
theorem say_pa1 (d : Nat) {n m kd : Int} (hk : 0 ≤ kd ∧ kd < 7) {tr : List Int} {μ : amM} (h : VC n m kd tr μ) (hl : tr.length + 7 ≤ 40) {x dep : Int} (hd0 : 0 ≤ dep) (hd : dep < 16) : SyC n m kd tr μ (RD cr2 (d + 6) 89 [59, 1, 1, x, dep] μ) (vpa1 n m kd x) := by
  obtain ⟨μ1, g1, g2, g3⟩ := say_pre (d + 4) h (by omega) (a := 1) (by decide) (act := 1) (by decide) (o := 1) rfl (by decide) (x := x) hd0 (by omega)
  obtain ⟨μ2, f1, f2, f3⟩ := say_pa0 d hk g2 (by rw [List.length_append, List.length_singleton]; omega) (a := 0) (by decide) rfl (x := x) (dep := dep + 1) (by omega) (by omega)
  have hp := vpa0_l n kd x
  obtain ⟨μ3, e1, e2, e3⟩ := say_tu (d + 1) f2 (by rw [List.length_append, List.length_append, List.length_singleton]; omega) (a := kd.toNat) (by omega) (x := 1) (dep := dep + 1) (by omega) (by omega)
  rw [Int.toNat_of_nonneg hk.1] at e1 e2
  have f1 : RD cr2 (d + 5) 89 [59, 0, 1, x, dep + 1] μ1 = some ((vpa0 n kd x).1, μ2) := f1
  rw [List.append_assoc] at e2
  refine SyC.app (g := ((vpa1 n m kd x).1, (vpa0 n kd x).2 ++ (vtu n m kd 1).2)) ⟨μ3, ?_, e2, f3.tr e3⟩ g3
  refine g1.trans ?_
  show At cr2 (d + 5) 89 6 [] [59, 0, 0, x, 0, 1, 0, w32 (dep + 1)] μ1 = _
  rw [B89_6, w32_i (by omega) (by omega)]
  refine (ald300 (i := 1) (by decide)).trans ?_
  show bnd (RD cr2 (d + 5) 89 [59, 0, 1, x, dep + 1] μ1) _ = _
  rw [f1, bnd_s, f2.2.1, e1, bnd_s]
theorem say_pa (d : Nat) {n m kd : Int} (hk : 0 ≤ kd ∧ kd < 7) {tr : List Int} {μ : amM} (h : VC n m kd tr μ) (hl : tr.length + 8 ≤ 40) {a : Nat} (ha : a < 7) {x dep : Int} (hd0 : 0 ≤ dep) (hd : dep < 14) : SyC n m kd tr μ (RD cr2 (d + 7) 89 [59, (a : Int), 1, x, dep] μ) (vpa n m kd a x) := by
  unfold vpa
  by_cases q1 : a = 1
  · subst q1
    rw [if_pos (by decide)]
    exact say_pa1 (d + 1) hk h (by omega) hd0 (by omega)
  · rw [if_neg (by omega)]
    by_cases q4 : a = 4
    · subst q4
      obtain ⟨μ1, g1, g2, g3⟩ := say_pre (d + 5) h (by omega) (a := 4) (by decide) (act := 1) (by decide) (o := 4) rfl (by decide) (x := x) hd0 (by omega)
      obtain ⟨μ2, f1, f2, f3⟩ := say_pa1 d hk g2 (by rw [List.length_append, List.length_singleton]; omega) (x := w32 (x + 1)) (dep := dep + 1) (by omega) (by omega)
      rw [if_pos (by decide)]
      refine SyC.app ⟨μ2, ?_, f2, f3⟩ g3
      refine g1.trans ?_
      show At cr2 (d + 6) 89 9 [] [59, 0, 0, x, 0, 4, 0, w32 (dep + 1)] μ1 = _
      rw [B89_9, w32_i (x := dep + 1) (by omega) (by omega)]
      refine (ald300 (i := 4) (by decide)).trans ?_
      show bnd (RD cr2 (d + 6) 89 [59, 1, 1, w32 (x + 1), dep + 1] μ1) _ = _
      rw [f1, bnd_s]
    · rw [if_neg (by omega)]
      refine say_pa0 (d + 2) hk h (by omega) ha ?_ hd0 (by omega)
      show (if a = 1 then 1 else if a = 4 then 4 else 0) = 0
      rw [if_neg q1, if_neg q4]
theorem say_te0 (d : Nat) {n m kd : Int} (hk : 0 ≤ kd ∧ kd < 7) {tr : List Int} {μ : amM} (h : VC n m kd tr μ) (hl : tr.length + 12 ≤ 40) {a : Nat} (ha : a < 7) (ho : ow a 3 = 0) {x dep : Int} (hd0 : 0 ≤ dep) (hd : dep < 12) : SyC n m kd tr μ (RD cr2 (d + 8) 89 [59, (a : Int), 3, x, dep] μ) (vte0 n m kd x) := by
  obtain ⟨μ1, g1, g2, g3⟩ := say_pre (d + 6) h (by omega) ha (act := 3) (by decide) ho (by decide) (x := x) hd0 (by omega)
  obtain ⟨μ2, f1, f2, f3⟩ := say_pa d hk g2 (by rw [List.length_append, List.length_singleton]; omega) (a := kd.toNat) (by omega) (x := x) (dep := dep + 1) (by omega) (by omega)
  rw [Int.toNat_of_nonneg hk.1] at f1 f2
  have hp := vpa_l n m kd kd x
  obtain ⟨μ3, e1, e2, e3⟩ := say_tu (d + 3) f2 (by rw [List.length_append, List.length_append, List.length_singleton]; omega) (a := kd.toNat) (by omega) (x := x) (dep := dep + 1) (by omega) (by omega)
  rw [Int.toNat_of_nonneg hk.1] at e1 e2
  rw [List.append_assoc] at e2
  refine SyC.app (g := ((vte0 n m kd x).1, (vpa n m kd kd x).2 ++ (vtu n m kd x).2)) ⟨μ3, ?_, e2, f3.tr e3⟩ g3
  refine g1.trans ?_
  show At cr2 (d + 7) 89 5 [] [59, 0, 0, x, 0, 0, 0, w32 (dep + 1)] μ1 = _
  rw [B89_5, w32_i (by omega) (by omega), g2.2.1, f1, bnd_s, f2.2.1, e1, bnd_s]
theorem say_te (d : Nat) {n m kd : Int} (hk : 0 ≤ kd ∧ kd < 7) {tr : List Int} {μ : amM} (h : VC n m kd tr μ) (hl : tr.length + 21 ≤ 40) {a : Nat} (ha : a < 7) {x dep : Int} (hd0 : 0 ≤ dep) (hd : dep < 10) : SyC n m kd tr μ (RD cr2 (d + 9) 89 [59, (a : Int), 3, x, dep] μ) (vte n m kd a x) := by
  unfold vte
  by_cases q5 : a = 5
  · subst q5
    obtain ⟨μ1, g1, g2, g3⟩ := say_pre (d + 7) h (by omega) (a := 5) (by decide) (act := 3) (by decide) (o := 5) rfl (by decide) (x := x) hd0 (by omega)
    obtain ⟨μ2, f1, f2, f3⟩ := say_te0 d hk g2 (by rw [List.length_append, List.length_singleton]; omega) (a := 2) (by decide) rfl (x := x) (dep := dep + 1) (by omega) (by omega)
    have hp := vte0_l n m kd x
    obtain ⟨μ3, e1, e2, e3⟩ := say_st (d + 4) f2 (by rw [List.length_append, List.length_append, List.length_singleton]; omega) (a := kd.toNat) (by omega) (x := 2) (dep := dep + 1) (by omega) (by omega)
    rw [Int.toNat_of_nonneg hk.1] at e1 e2
    rw [List.append_assoc] at e2
    have f1 : RD cr2 (d + 8) 89 [59, 2, 3, x, dep + 1] μ1 = some ((vte0 n m kd x).1, μ2) := f1
    rw [if_pos (by decide)]
    refine SyC.app (g := (0, (vte0 n m kd x).2 ++ (vst n kd 2).2)) ⟨μ3, ?_, e2, f3.tr e3⟩ g3
    refine g1.trans ?_
    show At cr2 (d + 8) 89 10 [] [59, 0, 0, x, 0, 5, 0, w32 (dep + 1)] μ1 = _
    rw [B89_10, w32_i (by omega) (by omega)]
    refine (ald300 (i := 5) (by decide)).trans ?_
    show bnd (RD cr2 (d + 8) 89 [59, 2, 3, x, dep + 1] μ1) _ = _
    rw [f1, bnd_s, f2.2.1, e1, bnd_s]
  · rw [if_neg (by omega)]
    by_cases q6 : a = 6
    · subst q6
      obtain ⟨μ1, g1, g2, g3⟩ := say_pre (d + 7) h (by omega) (a := 6) (by decide) (act := 3) (by decide) (o := 6) rfl (by decide) (x := x) hd0 (by omega)
      obtain ⟨μ2, f1, f2, f3⟩ := say_pa (d + 1) hk g2 (by rw [List.length_append, List.length_singleton]; omega) (a := kd.toNat) (by omega) (x := x) (dep := dep + 1) (by omega) (by omega)
      rw [Int.toNat_of_nonneg hk.1] at f1 f2
      have hp := vpa_l n m kd kd x
      obtain ⟨μ3, e1, e2, e3⟩ := say_te0 d hk f2 (by rw [List.length_append, List.length_append, List.length_singleton]; omega) (a := 3) (by decide) rfl (x := x) (dep := dep + 1) (by omega) (by omega)
      rw [List.append_assoc] at e2
      have e1 : RD cr2 (d + 8) 89 [59, 3, 3, x, dep + 1] μ2 = some ((vte0 n m kd x).1, μ3) := e1
      rw [if_pos (by decide)]
      refine SyC.app (g := (0, (vpa n m kd kd x).2 ++ (vte0 n m kd x).2)) ⟨μ3, ?_, e2, f3.tr e3⟩ g3
      refine g1.trans ?_
      show At cr2 (d + 8) 89 12 [] [59, 0, 0, x, 0, 6, 0, w32 (dep + 1)] μ1 = _
      rw [B89_12, w32_i (by omega) (by omega), g2.2.1, f1, bnd_s]
      refine (ald300 (i := 6) (by decide)).trans ?_
      show bnd (RD cr2 (d + 8) 89 [59, 3, 3, x, dep + 1] μ2) _ = _
      rw [e1, bnd_s]
    · rw [if_neg (by omega)]
      refine say_te0 (d + 1) hk h (by omega) ha ?_ hd0 (by omega)
      show (if a = 5 then 5 else if a = 6 then 6 else 0) = 0
      rw [if_neg q5, if_neg q6]
def voiceV (n m kd : Int) (act x : Int) : Int × List Int := if act = 0 then vst n kd x else if act = 1 then vpa n m kd kd x else if act = 2 then vtu n m kd x else vte n m kd kd x
def voiceS (σ : St) (l act x : Int) : Int × St := bif σ.t.isLot l then (bif (decide (0 ≤ act) && decide (act ≤ 3)) then (bif σ.t.kind l.toNat == -1 then σ.no 2 else ((voiceV l (σ.t.m l.toNat) (σ.t.kind l.toNat) act x).1, σ.setV (voiceV l (σ.t.m l.toNat) (σ.t.kind l.toNat) act x).2)) else σ.no 1) else σ.no 1
theorem voiceV_l (n m kd act x : Int) : (voiceV n m kd act x).2.length ≤ 21 := by
  unfold voiceV
  have h1 := vst_l n kd x
  have h2 := vpa_l n m kd kd x
  have h3 := vtu_l n m kd x
  have h4 := vte_l n m kd kd x
  split
  · omega
  · split
    · omega
    · split <;> omega
theorem voice_ok {σ : St} (ok : σ.Ok) (l act x : Int) : (voiceS σ l act x).2.Ok := by
  refine cd_ok (fun _ => cd_ok (fun _ => cd_ok (fun _ => ok) (fun _ => ?_)) (fun _ => ok)) (fun _ => ok)
  have := voiceV_l l (σ.t.m l.toNat) (σ.t.kind l.toNat) act x
  exact ⟨ok.1, ok.2.1, ok.2.2.1, by show (voiceV l (σ.t.m l.toNat) (σ.t.kind l.toNat) act x).2.length ≤ 40; omega⟩
theorem voice_c (d : Nat) {σ : St} {μ : amM} (ok : σ.Ok) (h : CI σ μ) (l act x : Int) : OC μ (RD cr2 (d + 20) 128 [0, l, act, x] μ) (voiceS σ l act x) := by
  have h64 := ok.t.le.2
  have no1 : OC μ (At cr2 (d + 19) 128 1 [] [0, 0, 0, 0] μ) (σ.no 1) := by
    rw [B128_1]
    exact (OC.no _ h (by decide) (by decide)).bi (fun _ _ => rfl)
  unfold voiceS
  rw [M128, isLot_e _ ok h, bnd_s, ifb]
  refine OC.cd (fun hl => ?_) (fun _ => no1)
  obtain ⟨n, rfl, hn⟩ := isLot_n hl
  rw [isWithin_e, bnd_s, ifb]
  refine OC.cd (fun ha => ?_) (fun _ => no1)
  obtain ⟨a, rfl, ha⟩ := wi_n ha
  rw [B128_2, isEmpty_e _ ok h hn, bnd_s, ifb, Int.toNat_natCast]
  refine OC.cd (fun _ => (OC.no _ h (by decide) (by decide)).bi (fun _ _ => rfl)) (fun he => ?_)
  have ne : σ.t.kind n ≠ -1 := fun q => by rw [q] at he; cases he
  have hk := (ok.t.2 n hn).1
  have q := (h.tc.2.1 n hn)
  let μ4 : amM := up (up (up (up μ 59 2 (σ.t.kind n)) 59 3 (n : Int)) 59 4 (σ.t.m n)) 59 1 0
  have v4 : VC (n : Int) (σ.t.m n) (σ.t.kind n) [] μ4 := ⟨⟨rfl, fun i hi => absurd hi (Nat.not_lt_zero i)⟩, rfl, rfl, rfl⟩
  have s4 : same (or2 gV ScC) μ μ4 := (((same.rf.up rfl).up rfl).up rfl).up rfl
  have f4 : same FC μ μ4 := (((same.rf.up rfl).up rfl).up rfl).up rfl
  have E : RD cr2 (d + 19) 86 [59, 2, (n : Int), (a : Int), x] μ = RD cr2 (d + 18) 89 [59, σ.t.kind n, (a : Int), x, 0] μ4 := by
    rw [M86, rd_p (by omega) (by omega), Int.toNat_natCast, q.1, wf_e, wf_e, rd_p (by omega) (by omega), Int.toNat_natCast]
    rw [show (up (up μ 59 2 (σ.t.kind n)) 59 3 (n : Int)) 4 n = σ.t.m n from (q.2 ne).1, wf_e, wf_e, bnd_id _ (fun _ _ => rfl)]
    rfl
  have say : SyC (n : Int) (σ.t.m n) (σ.t.kind n) [] μ4 (RD cr2 (d + 18) 89 [59, σ.t.kind n, (a : Int), x, 0] μ4) (voiceV (n : Int) (σ.t.m n) (σ.t.kind n) (a : Int) x) := by
    unfold voiceV
    have ek : ((σ.t.kind n).toNat : Int) = σ.t.kind n := Int.toNat_of_nonneg (by omega)
    rcases (show a = 0 ∨ a = 1 ∨ a = 2 ∨ a = 3 by omega) with rfl | rfl | rfl | rfl
    · rw [if_pos (by decide)]
      have := say_st (d + 14) v4 (by decide) (a := (σ.t.kind n).toNat) (by omega) (x := x) (dep := 0) (by decide) (by decide)
      rw [ek] at this
      exact this
    · rw [if_neg (by decide), if_pos (by decide)]
      have := say_pa (d + 11) (show 0 ≤ σ.t.kind n ∧ σ.t.kind n < 7 by omega) v4 (by decide) (a := (σ.t.kind n).toNat) (by omega) (x := x) (dep := 0) (by decide) (by decide)
      rw [ek] at this
      exact this
    · rw [if_neg (by decide), if_neg (by decide), if_pos (by decide)]
      have := say_tu (d + 14) v4 (by decide) (a := (σ.t.kind n).toNat) (by omega) (x := x) (dep := 0) (by decide) (by decide)
      rw [ek] at this
      exact this
    · rw [if_neg (by decide), if_neg (by decide), if_neg (by decide)]
      have := say_te (d + 9) (show 0 ≤ σ.t.kind n ∧ σ.t.kind n < 7 by omega) v4 (by decide) (a := (σ.t.kind n).toNat) (by omega) (x := x) (dep := 0) (by decide) (by decide)
      rw [ek] at this
      exact this
  obtain ⟨μ5, g1, g2, g3⟩ := say
  have sV : ∀ {S : Nat → Nat → Bool}, S 59 1 = true → (∀ i, S 60 i = true) → same S μ4 μ5 := fun {S} e1 e2 => g3.wide (fun c i w => by
    unfold SVc
    by_cases q1 : c = 59
    · subst q1
      by_cases q2 : i = 1
      · rw [q2, e1] at w; cases w
      · rw [beq_f q2]; rfl
    · by_cases q2 : c = 60
      · rw [q2, e2] at w; cases w
      · rw [beq_f q1, beq_f q2]; rfl)
  rw [B128_3, E, g1, bnd_s]
  exact ⟨μ5, rfl, h.setV (s4.tr (sV rfl (fun _ => rfl))) g2.1, f4.tr (sV rfl (fun _ => rfl))⟩
