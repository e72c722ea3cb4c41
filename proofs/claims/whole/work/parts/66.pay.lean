/-! ===== pays ===== -/
def K.gain (k : K) (n a : Nat) (s : Int) : Int := k.wor (ws (k.t.code n) a s) - k.wor (k.t.code n) - k.cost n a
def pay (σ : St) : Nat → Nat → Int → Int → Int × Int
  | 0, _, b, m => (b, m)
  | n + 1, i, b, m => bif σ.t.lawful (i / 12) (i / 3 % 4) ((i % 3 : Nat) : Int) (σ.t.wl.length : Int) then (if b = -1 ∨ m < σ.k.gain (i / 12) (i / 3 % 4) ((i % 3 : Nat) : Int) then pay σ n (i + 1) i (σ.k.gain (i / 12) (i / 3 % 4) ((i % 3 : Nat) : Int)) else pay σ n (i + 1) b m) else pay σ n (i + 1) b m
def paysS (σ : St) (x : Int) : Int × St := bif (decide (0 ≤ x) && decide (x ≤ 1)) then (if (pay σ (12 * σ.t.lots) 0 (-1) 0).1 = -1 then σ.no 2 else if x = 0 then ((pay σ (12 * σ.t.lots) 0 (-1) 0).1, σ) else ((pay σ (12 * σ.t.lots) 0 (-1) 0).2, σ)) else σ.no 1
theorem pays_ok {σ : St} (ok : σ.Ok) (x : Int) : (paysS σ x).2.Ok := cd_ok (fun _ => if_ok (fun _ => ok) (fun _ => if_ok (fun _ => ok) (fun _ => ok))) (fun _ => ok)
theorem gain_e (d : Nat) {σ : St} {μ : amM} (ok : σ.Ok) (h : CI σ μ) {n a : Nat} (hn : n < σ.t.lots) (ha : a < 4) {s : Int} (hs : 0 ≤ s ∧ s < 4) (ne : σ.t.kind n ≠ -1) : ∃ μ', RD cr2 (d + 5) 46 [1, (n : Int), (a : Int), s] μ = some (σ.k.gain n a s, μ') ∧ CI σ μ' ∧ same FC μ μ' := by
  have h64 := ok.t.le.2
  have hcd := ((ok.t.2 n hn).2 ne).2.2
  have hws := (mk_ws hcd ha hs (j := 0) (by decide)).2
  obtain ⟨μ1, a1, a2⟩ := worthOf_e d ok.1 h.1.2.2.2.1.2 hws
  have h1 := h.set0 (SStk_Sc a2)
  obtain ⟨μ2, b1, b2⟩ := worthOf_e d ok.1 h1.1.2.2.2.1.2 hcd
  have h2 := h1.set0 (SStk_Sc b2)
  obtain ⟨μ3, c1, c2⟩ := costOf_e d ok.1 h2.tc h2.1.2.2.2.1.1 hn ne a
  have w1 := wth_R σ.k (mk (ws (σ.t.code n) a s) 0) (mk (ws (σ.t.code n) a s) 1) (mk (ws (σ.t.code n) a s) 2) (mk (ws (σ.t.code n) a s) 3)
  have w2 := wth_R σ.k (mk (σ.t.code n) 0) (mk (σ.t.code n) 1) (mk (σ.t.code n) 2) (mk (σ.t.code n) 3)
  have w3 := cost_R ok.1 (lot := n) hn ne a
  have w1 : -99 ≤ σ.k.wor (ws (σ.t.code n) a s) ∧ σ.k.wor (ws (σ.t.code n) a s) ≤ 99 := w1
  have w2 : -99 ≤ σ.k.wor (σ.t.code n) ∧ σ.k.wor (σ.t.code n) ≤ 99 := w2
  rw [M46, rd_p (by omega) (by omega), Int.toNat_natCast, ((h.tc.2.1 n hn).2 ne).2, withSort_e _ _ hcd (by omega) hs, bnd_s, Int.toNat_natCast, a1, bnd_s, b1, bnd_s, c1, bnd_s, w32_i (x := σ.k.wor (ws (σ.t.code n) a s) - σ.k.wor (σ.t.code n)) (by omega) (by omega), w32_i (by omega) (by omega)]
  exact ⟨μ3, rfl, h2.set0 (SStk_Sc c2), ((SStk_F a2).tr (SStk_F b2)).tr (SStk_F c2)⟩
theorem pay_ge (σ : St) : ∀ (n i : Nat) (b m : Int), -1 ≤ b → -1 ≤ (pay σ n i b m).1
  | 0, _, _, _, h => h
  | n + 1, i, b, m, h => by
    unfold pay
    cases σ.t.lawful (i / 12) (i / 3 % 4) ((i % 3 : Nat) : Int) (σ.t.wl.length : Int) with
    | false => exact pay_ge σ n (i + 1) b m h
    | true =>
      rw [cond_true]
      by_cases q : b = -1 ∨ m < σ.k.gain (i / 12) (i / 3 % 4) ((i % 3 : Nat) : Int)
      · rw [if_pos q]; exact pay_ge σ n (i + 1) _ _ (by omega)
      · rw [if_neg q]; exact pay_ge σ n (i + 1) b m h
theorem pays_loop (d : Nat) {σ : St} (ok : σ.Ok) (x : Int) : ∀ (n i : Nat) (b m : Int) (μ : amM), i + n = 12 * σ.t.lots → CI σ μ → ∃ μ', At cr2 (d + 7) 125 2 [] [0, x, (σ.t.wl.length : Int), b, m, (i : Int), 0, 0, 0] μ = At cr2 (d + 7) 125 5 [] [0, x, 0, (pay σ n i b m).1, (pay σ n i b m).2, 0, 0, 0, 0] μ' ∧ CI σ μ' ∧ same FC μ μ'
  | 0, i, b, m, μ, hi, h => by
    have h64 := ok.t.le.2
    rw [B125_2, h.tc.1.2.2.2.1, w32_i (x := (σ.t.lots : Int) * 4) (by omega) (by omega), w32_i (by omega) (by omega), if_neg (by omega)]
    exact ⟨μ, rfl, h, same.rf⟩
  | n + 1, i, b, m, μ, hi, h => by
    have h64 := ok.t.le.2
    have hl : i / 12 < σ.t.lots := by omega
    have e1 : w32 ((i : Int).tdiv 12) = ((i / 12 : Nat) : Int) := by
      rw [Int.tdiv_eq_ediv_of_nonneg (by omega), w32_i (by omega) (by omega)]; rfl
    have e2 : (w32 ((i : Int).tdiv 3)).tmod 4 = ((i / 3 % 4 : Nat) : Int) := by
      rw [Int.tdiv_eq_ediv_of_nonneg (by omega), w32_i (by omega) (by omega), Int.tmod_eq_emod_of_nonneg (by omega)]; rfl
    have e3 : (i : Int).tmod 3 = ((i % 3 : Nat) : Int) := by
      rw [Int.tmod_eq_emod_of_nonneg (by omega)]; rfl
    have four : ∀ (b m : Int) (μ1 : amM), CI σ μ1 → same FC μ μ1 → ∃ μ', At cr2 (d + 7) 125 4 [] [0, x, (σ.t.wl.length : Int), b, m, (i : Int), 0, 0, 0] μ1 = At cr2 (d + 7) 125 5 [] [0, x, 0, (pay σ n (i + 1) b m).1, (pay σ n (i + 1) b m).2, 0, 0, 0, 0] μ' ∧ CI σ μ' ∧ same FC μ μ' := fun b m μ1 h1 f1 => by
      obtain ⟨μ2, g1, g2, g3⟩ := pays_loop d ok x n (i + 1) b m μ1 (by omega) h1
      rw [B125_4, w32_i (by omega) (by omega)]
      exact ⟨μ2, g1, g2, f1.tr g3⟩
    rw [B125_2, h.tc.1.2.2.2.1, w32_i (x := (σ.t.lots : Int) * 4) (by omega) (by omega), w32_i (x := (σ.t.lots : Int) * 4 * 3) (by omega) (by omega), if_pos (by omega), e1, e2, e3, isLawful_e (d + 1) ok.t h.tc hl (show i / 3 % 4 < 4 by omega) (show 0 ≤ ((i % 3 : Nat) : Int) ∧ ((i % 3 : Nat) : Int) < 4 by omega) (σ.t.wl.length : Int), bnd_s]
    unfold pay
    cases hq : σ.t.lawful (i / 12) (i / 3 % 4) ((i % 3 : Nat) : Int) (σ.t.wl.length : Int) with
    | false =>
      rw [if_pos (show bi false = 0 from rfl), cond_false]
      exact four b m μ h same.rf
    | true =>
      have hc := lawful_can hq
      obtain ⟨μ1, g1, g2, g3⟩ := gain_e (d + 2) ok h hl (show i / 3 % 4 < 4 by omega) (show 0 ≤ ((i % 3 : Nat) : Int) ∧ ((i % 3 : Nat) : Int) < 4 by omega) (can_5 hc).2.1
      rw [if_neg (show ¬ bi true = 0 from by decide), cond_true, g1, bnd_s]
      by_cases q1 : b = -1
      · rw [if_pos q1, if_pos (Or.inl q1), B125_3]
        exact four _ _ μ1 g2 g3
      · by_cases q2 : m < σ.k.gain (i / 12) (i / 3 % 4) ((i % 3 : Nat) : Int)
        · rw [if_neg q1, if_pos q2, if_pos (Or.inr q2), B125_3]
          exact four _ _ μ1 g2 g3
        · rw [if_neg q1, if_neg q2, if_neg (fun w => by rcases w with w | w; exact q1 w; exact q2 w)]
          exact four _ _ μ1 g2 g3
theorem pays_c (d : Nat) {σ : St} {μ : amM} (ok : σ.Ok) (h : CI σ μ) (x : Int) : OC μ (RD cr2 (d + 20) 125 [0, x] μ) (paysS σ x) := by
  unfold paysS
  rw [M125, isWithin_e, bnd_s, ifb]
  refine OC.cd (fun hx => ?_) (fun _ => (OC.no _ h (by decide) (by decide)).bi (fun _ _ => rfl))
  obtain ⟨μ1, a1, a2, a3⟩ := listWrong_e (d + 14) ok.t h.tc
  have h1 := h.set0 (S8_Sc a3)
  obtain ⟨μ2, g1, g2, g3⟩ := pays_loop (d + 12) ok x (12 * σ.t.lots) 0 (-1) 0 μ1 (Nat.zero_add _) h1
  have g1 : At cr2 (d + 19) 125 2 [] [0, x, (σ.t.wl.length : Int), -1, 0, 0, 0, 0, 0] μ1 = At cr2 (d + 19) 125 5 [] [0, x, 0, (pay σ (12 * σ.t.lots) 0 (-1) 0).1, (pay σ (12 * σ.t.lots) 0 (-1) 0).2, 0, 0, 0, 0] μ2 := g1
  have fr := (S8_F a3).tr g3
  rw [B125_1]
  refine OC.bs a1 (OC.tr ?_ (S8_F a3))
  rw [g1, B125_5]
  refine OC.tr ?_ g3
  by_cases q : (pay σ (12 * σ.t.lots) 0 (-1) 0).1 = -1
  · rw [if_pos q, if_pos q]
    exact (OC.no _ g2 (by decide) (by decide)).bi (fun _ _ => rfl)
  · rw [if_neg q, if_neg q, B125_6]
    by_cases q2 : x = 0
    · rw [if_pos q2, if_pos q2, B125_8]
      exact OC.rt g2
    · rw [if_neg q2, if_neg q2, B125_7, B125_8]
      exact OC.rt g2
theorem pays_mloop (d : Nat) {σ : St} (ok : σ.Ok) (x : Int) : ∀ (n i : Nat) (b m : Int) (μ : amM), i + n = 12 * σ.t.lots → -1 ≤ b → MI σ μ → PF σ.t.prs μ → ∃ μ', At cr2 (d + 75) 237 2 [] [71, x, b, m, (i : Int), 0, 0, 0, 0, 0, 0] μ = At cr2 (d + 75) 237 7 [] [71, x, (pay σ n i b m).1, (pay σ n i b m).2, 0, 0, 0, 0, 0, 0, 0] μ' ∧ MI σ μ' ∧ same FM μ μ'
  | 0, i, b, m, μ, hi, hb, h, hp => by
    have h64 := ok.t.le.2
    rw [B237_2, mLots_e _ ok.t h.tm, bnd_s, w32_i (by omega) (by omega), if_neg (by omega)]
    exact ⟨μ, rfl, h, same.rf⟩
  | n + 1, i, b, m, μ, hi, hb, h, hp => by
    have h64 := ok.t.le.2
    have hl : i / 12 < σ.t.lots := by omega
    have e1 : w32 ((i : Int).tdiv 12) = ((i / 12 : Nat) : Int) := by
      rw [Int.tdiv_eq_ediv_of_nonneg (by omega), w32_i (by omega) (by omega)]; rfl
    have e2 : w32 (((i : Int).tmod 12).tdiv 3) = ((i / 3 % 4 : Nat) : Int) := by
      rw [Int.tmod_eq_emod_of_nonneg (by omega), Int.tdiv_eq_ediv_of_nonneg (by omega), w32_i (by omega) (by omega)]
      omega
    have e3 : (i : Int).tmod 3 = ((i % 3 : Nat) : Int) := by
      rw [Int.tmod_eq_emod_of_nonneg (by omega)]; rfl
    have ha : i / 3 % 4 < 4 := by omega
    have hs : 0 ≤ ((i % 3 : Nat) : Int) ∧ ((i % 3 : Nat) : Int) < 4 := by omega
    have six : ∀ (b m : Int) (μ1 : amM), -1 ≤ b → MI σ μ1 → PF σ.t.prs μ1 → same FM μ μ1 → ∃ μ', At cr2 (d + 75) 237 6 [] [71, x, b, m, (i : Int), 0, 0, 0, 0, 0, 0] μ1 = At cr2 (d + 75) 237 7 [] [71, x, (pay σ n (i + 1) b m).1, (pay σ n (i + 1) b m).2, 0, 0, 0, 0, 0, 0, 0] μ' ∧ MI σ μ' ∧ same FM μ μ' := fun b m μ1 hb h1 p1 f1 => by
      obtain ⟨μ2, g1, g2, g3⟩ := pays_mloop d ok x n (i + 1) b m μ1 (by omega) hb h1 p1
      rw [B237_6, w32_i (by omega) (by omega)]
      exact ⟨μ2, g1, g2, f1.tr g3⟩
    rw [B237_2, mLots_e _ ok.t h.tm, bnd_s, w32_i (x := 12 * (σ.t.lots : Int)) (by omega) (by omega), if_pos (by omega), e1, e2, e3, mCan_e _ ok.t h.tm hl ha, bnd_s]
    unfold pay
    cases hc : σ.t.can (i / 12) (i / 3 % 4) ((i % 3 : Nat) : Int) with
    | false =>
      have hq : σ.t.lawful (i / 12) (i / 3 % 4) ((i % 3 : Nat) : Int) (σ.t.wl.length : Int) = false := by
        unfold Tn.lawful
        rw [hc]; rfl
      rw [if_pos (show bi false = 0 from rfl), hq, cond_false]
      exact six b m μ hb h hp same.rf
    | true =>
      obtain ⟨hbd, ne, n5, -⟩ := can_5 hc
      have hcd := ((ok.t.2 _ hl).2 ne).2.2
      have hws := (mk_ws hcd ha hs (j := 0) (by decide)).2
      have okt := cod_ok ok.t hl hws
      obtain ⟨μ1, a1, a2⟩ := mWorthOf_e (d + 7) ok.1 ok.t h.tm h.1.2.2.2.1.2 hl ne
      have h1 := h.set0 ok (STg_Sc a2)
      have p1 := hp.s a2 rfl (fun _ => rfl) (fun _ => rfl)
      obtain ⟨k1, k2, k3⟩ := try_e d ok h1 p1 hl ha hs ne
      have ne2 : (σ.t.cod (i / 12) (ws (σ.t.code (i / 12)) (i / 3 % 4) ((i % 3 : Nat) : Int))).kind (i / 12) ≠ -1 := by rw [cod_kind]; exact ne
      obtain ⟨μ3, b1, b2⟩ := mWorthOf_e (d + 7) k2.1 okt k1.tm k1.1.2.2.2.1.2 (lot := i / 12) hl ne2
      have h3 := k1.set0 k2 (STg_Sc b2)
      have p3 := k3.s b2 rfl (fun _ => rfl) (fun _ => rfl)
      obtain ⟨μ4, c1, c2⟩ := mCostOf_e (d + 7) k2.1 h3.tm h3.1.2.2.2.1.1 (lot := i / 12) hl ne2 (i / 3 % 4)
      have h4 := h3.set0 k2 (STg_Sc c2)
      have p4 := p3.s c2 rfl (fun _ => rfl) (fun _ => rfl)
      rw [cost_cod] at c1
      rw [cod_code_eq] at b1
      have b1 : RD cr2 (d + 75) 186 [71, ((i / 12 : Nat) : Int)] (up μ1 72 (148 + 4 * (i / 12) + i / 3 % 4) ((i % 3 : Nat) : Int)) = some (σ.k.wor (ws (σ.t.code (i / 12)) (i / 3 % 4) ((i % 3 : Nat) : Int)), μ3) := b1
      have w1 : -99 ≤ σ.k.wor (ws (σ.t.code (i / 12)) (i / 3 % 4) ((i % 3 : Nat) : Int)) ∧ σ.k.wor (ws (σ.t.code (i / 12)) (i / 3 % 4) ((i % 3 : Nat) : Int)) ≤ 99 := wth_R _ _ _ _ _
      have w2 : -99 ≤ σ.k.wor (σ.t.code (i / 12)) ∧ σ.k.wor (σ.t.code (i / 12)) ≤ 99 := wth_R _ _ _ _ _
      have w3 := cost_R ok.1 (lot := i / 12) hl ne (i / 3 % 4)
      have hm := mMark_e (d + 74) ok.t h.tm (lot := i / 12) (k := i / 3 % 4) hl ha ne
      have f4 : same FM μ μ4 := (((STg_F a2).tr FM_up).tr (STg_F b2)).tr (STg_F c2)
      -- behind the look: the mark is put back
      have five : ∀ (b m : Int) (μ5 : amM), -1 ≤ b → MI (σ.setT (σ.t.cod (i / 12) (ws (σ.t.code (i / 12)) (i / 3 % 4) ((i % 3 : Nat) : Int)))) μ5 → PF σ.t.prs μ5 → same FM μ μ5 → ∃ μ', At cr2 (d + 75) 237 5 [] [71, x, b, m, (i : Int), ((i / 12 : Nat) : Int), ((i / 3 % 4 : Nat) : Int), 0, mk (σ.t.code (i / 12)) (i / 3 % 4), 0, 0] μ5 = At cr2 (d + 75) 237 7 [] [71, x, (pay σ n (i + 1) b m).1, (pay σ n (i + 1) b m).2, 0, 0, 0, 0, 0, 0, 0] μ' ∧ MI σ μ' ∧ same FM μ μ' := fun b m μ5 hb h5 p5 f5 => by
        rw [B237_5, sets_e _ ok.t hl ha, bnd_s]
        exact six b m _ hb (untry_e d ok hl ha hs ne h5) (p5.u _ _) (f5.tr FM_up)
      have el := lawful_wl ok.t hl hbd (ws (σ.t.code (i / 12)) (i / 3 % 4) ((i % 3 : Nat) : Int))
      have eq : σ.t.lawful (i / 12) (i / 3 % 4) ((i % 3 : Nat) : Int) (σ.t.wl.length : Int) = ((σ.t.cod (i / 12) (ws (σ.t.code (i / 12)) (i / 3 % 4) ((i % 3 : Nat) : Int))).wl.length == 0) := by
        rw [el]
        unfold Tn.lawful
        rw [hc, Bool.true_and]
      obtain ⟨μ6, m1, m2, m3⟩ := isAllRight_e (d + 70) okt h4.tm p4
      have h6 := h4.set0 k2 (S71w_Sc m3)
      have p6 : PF σ.t.prs μ6 := p4.s m3 rfl (fun _ => rfl) (fun _ => rfl)
      have m1 : RD cr2 (d + 75) 181 [71] μ4 = some (bi (σ.t.lawful (i / 12) (i / 3 % 4) ((i % 3 : Nat) : Int) (σ.t.wl.length : Int)), μ6) := by
        rw [eq]
        exact m1
      have eg : σ.k.wor (ws (σ.t.code (i / 12)) (i / 3 % 4) ((i % 3 : Nat) : Int)) - σ.k.wor (σ.t.code (i / 12)) - σ.k.cost (i / 12) (i / 3 % 4) = σ.k.gain (i / 12) (i / 3 % 4) ((i % 3 : Nat) : Int) := rfl
      rw [if_neg (show ¬ bi true = 0 from by decide), B237_3, hm, bnd_s, a1, bnd_s, sets_e _ ok.t hl ha, bnd_s, b1, bnd_s, c1, bnd_s, w32_i (x := σ.k.wor (ws (σ.t.code (i / 12)) (i / 3 % 4) ((i % 3 : Nat) : Int)) - σ.k.wor (σ.t.code (i / 12))) (by omega) (by omega), w32_i (by omega) (by omega), eg]
      have look : (b = -1 ∨ m < σ.k.gain (i / 12) (i / 3 % 4) ((i % 3 : Nat) : Int)) → ∃ μ', At cr2 (d + 75) 237 4 [] [71, x, b, m, (i : Int), ((i / 12 : Nat) : Int), ((i / 3 % 4 : Nat) : Int), 0, mk (σ.t.code (i / 12)) (i / 3 % 4), 0, σ.k.gain (i / 12) (i / 3 % 4) ((i % 3 : Nat) : Int)] μ4 = At cr2 (d + 75) 237 7 [] [71, x, (bif σ.t.lawful (i / 12) (i / 3 % 4) ((i % 3 : Nat) : Int) (σ.t.wl.length : Int) then (if b = -1 ∨ m < σ.k.gain (i / 12) (i / 3 % 4) ((i % 3 : Nat) : Int) then pay σ n (i + 1) i (σ.k.gain (i / 12) (i / 3 % 4) ((i % 3 : Nat) : Int)) else pay σ n (i + 1) b m) else pay σ n (i + 1) b m).1, (bif σ.t.lawful (i / 12) (i / 3 % 4) ((i % 3 : Nat) : Int) (σ.t.wl.length : Int) then (if b = -1 ∨ m < σ.k.gain (i / 12) (i / 3 % 4) ((i % 3 : Nat) : Int) then pay σ n (i + 1) i (σ.k.gain (i / 12) (i / 3 % 4) ((i % 3 : Nat) : Int)) else pay σ n (i + 1) b m) else pay σ n (i + 1) b m).2, 0, 0, 0, 0, 0, 0, 0] μ' ∧ MI σ μ' ∧ same FM μ μ' := fun w => by
        rw [B237_4, m1, bnd_s]
        cases hq : σ.t.lawful (i / 12) (i / 3 % 4) ((i % 3 : Nat) : Int) (σ.t.wl.length : Int) with
        | false =>
          rw [if_pos (show bi false = 0 from rfl), cond_false]
          exact five b m μ6 hb h6 p6 (f4.tr (S71w_F m3))
        | true =>
          rw [if_neg (show ¬ bi true = 0 from by decide), cond_true, if_pos w]
          exact five _ _ μ6 (by omega) h6 p6 (f4.tr (S71w_F m3))
      by_cases q1 : b = -1
      · rw [if_pos (show b < 0 by omega)]
        exact look (Or.inl q1)
      · by_cases q2 : m < σ.k.gain (i / 12) (i / 3 % 4) ((i % 3 : Nat) : Int)
        · rw [if_neg (show ¬ b < 0 by omega), if_pos q2]
          exact look (Or.inr q2)
        · have nw : ¬ (b = -1 ∨ m < σ.k.gain (i / 12) (i / 3 % 4) ((i % 3 : Nat) : Int)) := fun w => by rcases w with w | w; exact q1 w; exact q2 w
          rw [if_neg (show ¬ b < 0 by omega), if_neg q2, if_neg nw]
          have e : (bif σ.t.lawful (i / 12) (i / 3 % 4) ((i % 3 : Nat) : Int) (σ.t.wl.length : Int) then pay σ n (i + 1) b m else pay σ n (i + 1) b m) = pay σ n (i + 1) b m := by
            cases σ.t.lawful (i / 12) (i / 3 % 4) ((i % 3 : Nat) : Int) (σ.t.wl.length : Int) <;> rfl
          rw [e]
          exact five b m μ4 hb h4 p4 f4
theorem pays_m (d : Nat) {σ : St} {μ : amM} (ok : σ.Ok) (h : MI σ μ) (x : Int) : OM μ (RD cr2 (d + 80) 237 [71, x] μ) (paysS σ x) := by
  unfold paysS
  rw [M237, in_e, bnd_s, ifb]
  refine OM.cd (fun hx => ?_) (fun _ => (OM.no _ ok h (by decide) (by decide)).bi (fun _ _ => rfl))
  obtain ⟨μ1, a1, a2, a3⟩ := findPairs_e (d + 77) ok.t h.tm
  have h1 := h.set0 ok (SP_Sc a3)
  obtain ⟨μ2, g1, g2, g3⟩ := pays_mloop (d + 4) ok x (12 * σ.t.lots) 0 (-1) 0 μ1 (Nat.zero_add _) (by decide) h1 a2
  have g1 : At cr2 (d + 79) 237 2 [] [71, x, -1, 0, 0, 0, 0, 0, 0, 0, 0] μ1 = At cr2 (d + 79) 237 7 [] [71, x, (pay σ (12 * σ.t.lots) 0 (-1) 0).1, (pay σ (12 * σ.t.lots) 0 (-1) 0).2, 0, 0, 0, 0, 0, 0, 0] μ2 := g1
  have hge := pay_ge σ (12 * σ.t.lots) 0 (-1) 0 (by decide)
  rw [B237_1]
  refine OM.bs a1 (OM.tr ?_ (SP_F a3))
  rw [g1, B237_7]
  refine OM.tr ?_ g3
  by_cases q : (pay σ (12 * σ.t.lots) 0 (-1) 0).1 = -1
  · rw [if_pos (by omega), if_pos q]
    exact (OM.no _ ok g2 (by decide) (by decide)).bi (fun _ _ => by rw [B237_10])
  · rw [if_neg (by omega), if_neg q, B237_8]
    by_cases q2 : x = 0
    · rw [if_pos q2, if_pos q2, B237_10]
      exact OM.rt g2
    · rw [if_neg q2, if_neg q2, B237_9, B237_10]
      exact OM.rt g2
