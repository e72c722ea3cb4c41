/-! ===== the class's search: a pair, all of it ===== -/
def attF (t : Tn) (p : Nat × Nat) (n kk : Nat) : List (Nat × Nat) := ((List.range' kk n).filter (mskx t p)).flatMap (fun k => [(p.1, k), (p.2, k)])
theorem attF_all (t : Tn) (p : Nat × Nat) : attF t p 4 0 = atts t p := by
  unfold attF atts
  rw [List.range_eq_range']
theorem attF_no {t : Tn} {p : Nat × Nat} {kk : Nat} (n : Nat) (h : mskx t p kk = false) : attF t p (n + 1) kk = attF t p n (kk + 1) := by
  unfold attF
  rw [List.range'_succ, List.filter_cons_of_neg (by rw [h]; decide)]
theorem attF_yes {t : Tn} {p : Nat × Nat} {kk : Nat} (n : Nat) (h : mskx t p kk = true) : attF t p (n + 1) kk = (p.1, kk) :: (p.2, kk) :: attF t p n (kk + 1) := by
  unfold attF
  rw [List.range'_succ, List.filter_cons_of_pos h, List.flatMap_cons]
  rfl
theorem at_1 (e : Nat) {k : K} {lev : Nat} {R : Int} {G : (Nat → Bool) → Nat → Nat → Int} {L : Nat → Bool} {μ : amM} {l kk : Nat} (hk : kk < 4) (l64 : l < 64) (hm : NDm k L μ) (hG : L (4 * l + kk) = false → ∃ μ', RD cr2 (e + 1) 18 [41, (l : Int), (kk : Int), (lev : Int), R] μ = some (G (lk1 L (4 * l + kk)) l kk, μ') ∧ NDm k (lk1 L (4 * l + kk)) μ' ∧ same (Gat lev l) μ μ') : ∃ v L' μ', RD cr2 (e + 1) 18 [41, (l : Int), (kk : Int), (lev : Int), R] μ = some (v, μ') ∧ NDm k L' μ' ∧ same (Gat lev l) μ μ' ∧ ∀ A b, fld G ((l, kk) :: A) b L = fld G A (mn b v) L' := by
  cases q : L (4 * l + kk) with
  | true =>
    refine ⟨-1, L, μ, ?_, hm, same.rf, fun A b => ?_⟩
    · rw [M18, rd_p (geI _) (ltI l64), Int.toNat_natCast, hm.2.2.2 l l64, lkm_t L l hk, q, if_neg (by decide)]
    · show (if L (4 * l + kk) = true then _ else _) = _
      rw [if_pos q]
  | false =>
    obtain ⟨μ', a, b, c⟩ := hG q
    refine ⟨_, _, μ', a, b, c, fun A b => ?_⟩
    show (if L (4 * l + kk) = true then _ else _) = _
    rw [if_neg (by rw [q]; decide)]
theorem prA_l (e : Nat) {k : K} {t : Tn} {Q : List (Nat × Nat)} {lev : Nat} {R : Int} (hlev : lev < 4) {p : Nat × Nat} (hp : p.1 < 64 ∧ p.2 < 64) {mask x5 x6 : Int} (hM : ∀ kk : Nat, kk < 4 → bAnd (bShr mask (kk : Int)) 1 = bi (mskx t p kk)) {G : (Nat → Bool) → Nat → Nat → Int} (hG : ∀ (L : Nat → Bool) (μ : amM) (l kk : Nat), (l = p.1 ∨ l = p.2) → kk < 4 → TC 2 t μ → NDm k L μ → LQ lev Q μ → L (4 * l + kk) = false → ∃ μ', RD cr2 (e + 1) 18 [41, (l : Int), (kk : Int), (lev : Int), R] μ = some (G (lk1 L (4 * l + kk)) l kk, μ') ∧ NDm k (lk1 L (4 * l + kk)) μ' ∧ same (Gat lev l) μ μ') : ∀ (n kk : Nat) (b : Int) (L : Nat → Bool) (μ : amM), kk + n = 4 → TC 2 t μ → NDm k L μ → LQ lev Q μ → ∃ μ', At cr2 (e + 1) 17 6 [] [41, (lev : Int), R, (p.1 : Int), (p.2 : Int), x5, x6, 0, mask, b, (kk : Int)] μ = At cr2 (e + 1) 17 8 [] [41, 0, 0, (p.1 : Int), (p.2 : Int), x5, x6, 0, 0, (fld G (attF t p n kk) b L).1, 0] μ' ∧ same (Gpr lev p.1 p.2) μ μ'
  | 0, kk, b, L, μ, hn, h, hm, hq => by
    rw [B17_6, if_neg (by omega)]
    exact ⟨μ, rfl, same.rf⟩
  | n + 1, kk, b, L, μ, hn, h, hm, hq => by
    have hk : kk < 4 := by omega
    have wi : w32 ((kk : Int) + 1) = ((kk + 1 : Nat) : Int) := wi1 (by omega)
    rw [B17_6, if_pos (show (kk : Int) < 4 by omega), hM kk hk]
    cases q : mskx t p kk with
    | false =>
      rw [if_pos (by rfl), B17_7, wi, attF_no n q]
      exact prA_l e hlev hp hM hG n (kk + 1) b L μ (by omega) h hm hq
    | true =>
      obtain ⟨v1, L1, μ1, a1, a2, a3, a4⟩ := at_1 e (R := R) hk hp.1 hm (fun w => hG L μ p.1 kk (Or.inl rfl) hk h hm hq w)
      have a3 := Gat_pr1 (b := p.2) a3
      have h1 := h.pr a3
      have hq1 := hq.pr (by omega) a3
      obtain ⟨v2, L2, μ2, b1, b2, b3, b4⟩ := at_1 e (R := R) hk hp.2 a2 (fun w => hG L1 μ1 p.2 kk (Or.inr rfl) hk h1 a2 hq1 w)
      have b3 := Gat_pr2 (a := p.1) b3
      obtain ⟨μ3, c1, c2⟩ := prA_l e hlev hp hM hG n (kk + 1) (mn (mn b v1) v2) L2 μ2 (by omega) (h1.pr b3) b2 (hq1.pr (by omega) b3)
      rw [if_neg (by decide), a1, bnd_s, mn_e, bnd_s, b1, bnd_s, mn_e, bnd_s, B17_7, wi, attF_yes n q, a4, b4]
      exact ⟨μ3, c1, (a3.tn b3).tn c2⟩
theorem pr_back {lev a b : Nat} {μ μ1 : amM} (h : same (Gpr lev a b) μ μ1) {x y : Int} (hx : μ 49 a = x) (hy : μ 49 b = y) : same (Gnd lev) μ (up (up μ1 49 a x) 49 b y) := fun c i g => by
  have w := nd_of g
  by_cases e2 : c = 49 ∧ i = b
  · rw [e2.1, e2.2, up_eq, hy]
  · rw [up_ne _ _ _ _ (by omega)]
    by_cases e1 : c = 49 ∧ i = a
    · rw [e1.1, e1.2, up_eq, hx]
    · rw [up_ne _ _ _ _ (by omega)]
      exact h c i (dn (by omega))
theorem nd_c (d : Nat) {k : K} (okk : k.Ok) : ∀ (r lev : Nat) (t : Tn) (L : Nat → Bool) (Q : List (Nat × Nat)) (μ : amM), lev + r ≤ 4 → NDt k t → TC 2 t μ → NDm k L μ → QW t Q → LQ lev Q μ → ∃ μ', RD cr2 (d + 2 * r + 8) 17 [41, (lev : Int), (r : Int)] μ = some (nd k.W r t L Q, μ') ∧ same (Gnd lev) μ μ'
  | 0, lev, t, L, Q, μ, hle, ht, h, hm, hQ, hq => by
    have l5 : lev < 5 := by omega
    show ∃ μ', RD cr2 (d + 7 + 1) 17 [41, (lev : Int), 0] μ = some ((if Q.length = 0 then 0 else -1), μ') ∧ _
    rw [M17, rd_p (geI _) (ltI l5), Int.toNat_natCast, hq.1]
    by_cases q : Q.length = 0
    · rw [if_pos (by omega), if_pos q]
      exact ⟨μ, rfl, same.rf⟩
    · rw [if_neg (by omega), if_neg q, B17_1, if_neg (by decide), B17_2]
      exact ⟨μ, rfl, same.rf⟩
  | r + 1, lev, t, L, Q, μ, hle, ht, h, hm, hQ, hq => by
    have l5 : lev < 5 := by omega
    have l4 : lev < 4 := by omega
    have h64 := ht.1.le.2
    rw [show d + 2 * (r + 1) + 8 = (d + 2 * r + 9) + 1 by omega, M17, rd_p (geI _) (ltI l5), Int.toNat_natCast, hq.1]
    unfold nd
    by_cases q : Q.length = 0
    · rw [if_pos (by omega), if_pos q]
      exact ⟨μ, rfl, same.rf⟩
    · have hn : RD cr2 (d + 2 * r + 9) 20 [41, (lev : Int)] μ = some (ned t Q, μ) := ned_e (d + 2 * r + 6) ht.1 h hm.2.2.1 l5 hQ hq
      rw [if_neg (by omega), if_neg q, B17_1, if_pos (by omega), if_pos (by omega), hn, bnd_s]
      by_cases q2 : ((r + 1 : Nat) : Int) < ned t Q
      · rw [if_pos q2, if_pos q2, B17_2]
        exact ⟨μ, rfl, same.rf⟩
      · have q0 : 0 < Q.length := by omega
        have hQ0 := hQ.mem ht.1 (getD_mem (0, 0) q0)
        have cell := hq.2 0 q0
        rw [if_neg q2, if_neg q2]
        generalize Q.getD 0 (0, 0) = p at hQ0 cell
        have w := wrong_b hQ0.2.2.2.1
        have ha : p.1 < 64 := Nat.lt_of_lt_of_le hQ0.1 h64
        have hb : p.2 < 64 := Nat.lt_of_lt_of_le hQ0.2.1 h64
        have na := Tn.bound_ne w.1
        have nb := Tn.bound_ne w.2.1
        have ea := ((h.2.1 p.1 hQ0.1).2 na).2
        have eb := ((h.2.1 p.2 hQ0.2.1).2 nb).2
        have ca := ((ht.1.2 p.1 hQ0.1).2 na).2.2
        have cb := ((ht.1.2 p.2 hQ0.2.1).2 nb).2.2
        have pq := pr64 ha hb
        have la : ∀ f, amAld μ ((43 + lev : Nat) : Int) 0 f = f (μ (43 + lev) 0) := fun f => lqA l5 (i := 0) (by decide)
        have el : μ 2 11 = t.least := h.1.2.2.2.2.1
        have hG : ∀ (L : Nat → Bool) (μ : amM) (l kk : Nat), (l = p.1 ∨ l = p.2) → kk < 4 → TC 2 t μ → NDm k L μ → LQ lev Q μ → L (4 * l + kk) = false → ∃ μ', RD cr2 (d + 2 * r + 8 + 1) 18 [41, (l : Int), (kk : Int), (lev : Int), ((r + 1 : Nat) : Int)] μ = some ((fun L' l k_1 => ads (trs (fun t' => nd k.W r t' L' (nxt t' l Q)) t l k_1) (k.W (4 * l + k_1))) (lk1 L (4 * l + kk)) l kk, μ') ∧ NDm k (lk1 L (4 * l + kk)) μ' ∧ same (Gat lev l) μ μ' := fun L μ l kk hl hk h hm hq hL => by
          have hll : l < t.lots ∧ t.bound l = true := by
            rcases hl with rfl | rfl
            · exact ⟨hQ0.1, w.1⟩
            · exact ⟨hQ0.2.1, w.2.1⟩
          have ne := Tn.bound_ne hll.2
          exact at_c (d + 2 * r) okk l4 (by omega) ht hQ hll.1 hll.2 hk hL h hm hq (fun s hs => by
            have B := nd_B okk (ht.turn hll.1 ne hk (s := (s : Int)) (by omega)) r (lk1 L (4 * l + kk)) (QW.next ht.1 (k := kk) hll.1 (s := (s : Int)) hQ)
            exact ⟨B.1, by have := B.2; omega⟩) (fun s hs μ' g1 g2 g3 g4 g5 => nd_c d okk r (lev + 1) _ _ _ μ' (by omega) g1 g2 g3 g4 g5)
        have fin : ∀ mask : Int, (∀ kk : Nat, kk < 4 → bAnd (bShr mask (kk : Int)) 1 = bi (mskx t p kk)) → ∃ μ', At cr2 (d + 2 * r + 9) 17 6 [] [41, (lev : Int), ((r + 1 : Nat) : Int), (p.1 : Int), (p.2 : Int), lkm L p.1, lkm L p.2, 0, mask, -1, 0] μ = some ((fld (fun L' l k_1 => ads (trs (fun t' => nd k.W r t' L' (nxt t' l Q)) t l k_1) (k.W (4 * l + k_1))) (atts t p) (-1) L).1, μ') ∧ same (Gnd lev) μ μ' := fun mask hM => by
          obtain ⟨μ1, a1, a2⟩ := prA_l (d + 2 * r + 8) (R := ((r + 1 : Nat) : Int)) (G := fun L' l k_1 => ads (trs (fun t' => nd k.W r t' L' (nxt t' l Q)) t l k_1) (k.W (4 * l + k_1))) l4 ⟨ha, hb⟩ (x5 := lkm L p.1) (x6 := lkm L p.2) hM hG 4 0 (-1) L μ rfl h hm hq
          refine ⟨up (up μ1 49 p.1 (lkm L p.1)) 49 p.2 (lkm L p.2), a1.trans ?_, pr_back a2 (hm.2.2.2 _ ha) (hm.2.2.2 _ hb)⟩
          rw [B17_8, wr_p (geI _) (ltI ha), Int.toNat_natCast, wr_p (geI _) (ltI hb), Int.toNat_natCast, attF_all]
        rw [B17_3, lqQ l5, la, lqQ l5, la, cell, pq.1, pq.2, rd_p (geI _) (ltI ha), Int.toNat_natCast, hm.2.2.2 _ ha, rd_p (geI _) (ltI hb), Int.toNat_natCast, hm.2.2.2 _ hb, hm.2.2.1, if_pos rfl, rd_p (geI _) (ltI ha), Int.toNat_natCast, ea, if_pos rfl, rd_p (geI _) (ltI hb), Int.toNat_natCast, eb, alm_e _ ca cb, bnd_s, bits_e, bnd_s, alm_p, hm.2.2.1, if_pos rfl, el]
        by_cases q3 : alk (t.code p.1) (t.code p.2) < t.least
        · rw [if_pos q3, B17_5]
          exact fin _ (fun kk hk => by
            unfold mskx
            rw [if_pos q3]
            exact (alm_t _ _ hk).2)
        · rw [if_neg q3, B17_4, B17_5]
          exact fin _ (fun kk hk => by
            unfold mskx
            rw [if_neg q3]
            exact (alm_t _ _ hk).1)
