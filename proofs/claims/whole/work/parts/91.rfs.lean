/-! ===== the reference's search; both answer the same ===== -/
def bet (a b : Int) : Int := if b < 0 then a else if a < b then a else b
theorem bet_R {a b : Int} (ha : 0 ≤ a) (hb : -1 ≤ b) : 0 ≤ bet a b ∧ bet a b ≤ a ∧ (b ≠ -1 → bet a b ≤ b) ∧ (bet a b = b ∨ bet a b = a) := by
  unfold bet
  by_cases q : b < 0
  · rw [if_pos q]; omega
  · rw [if_neg q]
    by_cases q2 : a < b
    · rw [if_pos q2]; omega
    · rw [if_neg q2]; omega
def olt (p : Nat × Nat) (v : Nat) : Nat := if v < 12 then p.1 else p.2
def rfo (W : Nat → Int) (f : Tn → (Nat → Bool) → Int → Int → Int) (t : Tn) (U : Nat → Bool) (a : Int) (p : Nat × Nat) : Nat → Nat → Int → Int
  | 0, _, b => b
  | n + 1, v, b => if mk (t.code (olt p v)) (v % 12 / 3) = ((v % 3 : Nat) : Int) ∨ U (4 * olt p v + v % 12 / 3) = true then rfo W f t U a p n (v + 1) b else rfo W f t U a p n (v + 1) (f (t.turn (olt p v) (v % 12 / 3) ((v % 3 : Nat) : Int)) (lk1 U (4 * olt p v + v % 12 / 3)) (a + W (4 * olt p v + v % 12 / 3)) b)
def rf (W : Nat → Int) : Nat → Tn → (Nat → Bool) → Int → Int → Int
  | 0, t, _, a, b => if t.wl.length = 0 then bet a b else b
  | m + 1, t, U, a, b => if t.wl.length = 0 then bet a b else if t.wl.length ≤ 4 * (m + 1) then rfo W (rf W m) t U a (t.wl.getD 0 (0, 0)) 24 0 b else b
def RR (W : Nat → Int) (m : Nat) (t : Tn) (U : Nat → Bool) (a b R : Int) : Prop := -1 ≤ R ∧ (b ≠ -1 → R ≠ -1 ∧ R ≤ b) ∧ (R = b ∨ ∃ c, tg t U c ∧ DD t c ≤ (m : Int) ∧ R = a + CC W t c)
theorem rfo_R {W : Nat → Int} {m : Nat} {t : Tn} (ok : t.Ok) (hW : WP W t) {U : Nat → Bool} {a : Int} (ha : 0 ≤ a) {p : Nat × Nat} (h1 : p.1 < t.lots ∧ t.bound p.1 = true) (h2 : p.2 < t.lots ∧ t.bound p.2 = true) {f : Tn → (Nat → Bool) → Int → Int → Int} (hf : ∀ t' U' a' b', t'.Ok → WP W t' → 0 ≤ a' → -1 ≤ b' → RR W m t' U' a' b' (f t' U' a' b') ∧ ∀ c, tg t' U' c → DD t' c ≤ (m : Int) → f t' U' a' b' ≠ -1 ∧ f t' U' a' b' ≤ a' + CC W t' c) : ∀ (n v : Nat) (b : Int), v + n = 24 → -1 ≤ b → RR W (m + 1) t U a b (rfo W f t U a p n v b) ∧ ∀ c, tg t U c → DD t c ≤ ((m + 1 : Nat) : Int) → (∃ x, v ≤ x ∧ x < 24 ∧ mkx t.code (4 * olt p x + x % 12 / 3) ≠ mkx c (4 * olt p x + x % 12 / 3) ∧ mkx c (4 * olt p x + x % 12 / 3) = ((x % 3 : Nat) : Int)) → rfo W f t U a p n v b ≠ -1 ∧ rfo W f t U a p n v b ≤ a + CC W t c
  | 0, v, b, hv, hb => ⟨⟨hb, fun h => ⟨h, Int.le_refl _⟩, Or.inl rfl⟩, fun c _ _ ⟨x, x1, x2, _⟩ => by omega⟩
  | n + 1, v, b, hv, hb => by
    have ol : olt p v < t.lots ∧ t.bound (olt p v) = true := by
      unfold olt
      by_cases q : v < 12
      · rw [if_pos q]; exact h1
      · rw [if_neg q]; exact h2
    have hk : v % 12 / 3 < 4 := by omega
    unfold rfo
    by_cases q : mk (t.code (olt p v)) (v % 12 / 3) = ((v % 3 : Nat) : Int) ∨ U (4 * olt p v + v % 12 / 3) = true
    · rw [if_pos q]
      have ih := rfo_R ok hW (U := U) ha h1 h2 hf n (v + 1) b (by omega) hb
      refine ⟨ih.1, fun c c1 c2 c3 => ih.2 c c1 c2 ?_⟩
      obtain ⟨x, x1, x2, x3, x4⟩ := c3
      by_cases e : x = v
      · rw [e] at x3 x4
        rcases q with q | q
        · rw [mkx_at _ _ hk, q] at x3
          exact absurd x4.symm x3
        · have := (c1.1 _ (by omega) x3).2.2.2
          rw [q] at this
          cases this
      · exact ⟨x, by omega, x2, x3, x4⟩
    · rw [if_neg q]
      have q1 : mk (t.code (olt p v)) (v % 12 / 3) ≠ ((v % 3 : Nat) : Int) := fun w => q (Or.inl w)
      have q2 : U (4 * olt p v + v % 12 / 3) = false := by
        cases w : U (4 * olt p v + v % 12 / 3) with
        | false => rfl
        | true => exact absurd (Or.inr w) q
      have hw : 0 ≤ W (4 * olt p v + v % 12 / 3) := hW _ (by rw [show (4 * olt p v + v % 12 / 3) / 4 = olt p v by omega]; exact ol.2)
      have F := hf (t.turn (olt p v) (v % 12 / 3) ((v % 3 : Nat) : Int)) (lk1 U (4 * olt p v + v % 12 / 3)) (a + W (4 * olt p v + v % 12 / 3)) b (turn_ok ok ol.1 (Tn.bound_ne ol.2) hk (by omega)) (WP_turn hW _ _ _) (by omega) hb
      have ih := rfo_R ok hW (U := U) ha h1 h2 hf n (v + 1) _ (by omega) F.1.1
      have e4 : 4 * (t.turn (olt p v) (v % 12 / 3) ((v % 3 : Nat) : Int)).lots = 4 * t.lots := rfl
      refine ⟨⟨ih.1.1, fun w => ?_, ?_⟩, fun c c1 c2 c3 => ?_⟩
      · have f1 := F.1.2.1 w
        have i1 := ih.1.2.1 f1.1
        exact ⟨i1.1, Int.le_trans i1.2 f1.2⟩
      · rcases ih.1.2.2 with e | e
        · rcases F.1.2.2 with e2 | ⟨c, c1, c2, c3⟩
          · exact Or.inl (e.trans e2)
          · have back := tg_back ok (L := U) ol.1 ol.2 hk (s := ((v % 3 : Nat) : Int)) (by omega) (by rw [mkx_at _ _ hk]; exact q1) q2 (lk1_at U _) (fun m hm => lk1_up hm) c1
            refine Or.inr ⟨c, back.1, ?_, ?_⟩
            · have := back.2 (fun _ => 1)
              unfold DD at c2 ⊢
              rw [this]
              rw [e4] at c2
              omega
            · have := back.2 W
              rw [e, c3]
              unfold CC
              rw [this, e4]
              omega
        · exact Or.inr e
      · obtain ⟨x, x1, x2, x3, x4⟩ := c3
        by_cases e : x = v
        · rw [e] at x3 x4
          have st := tg_step ok (L' := lk1 U (4 * olt p v + v % 12 / 3)) ol.1 (Tn.bound_ne ol.2) hk c1 x3 (fun m hm hm2 hw2 => lk1_f (c1.1 m hm hw2).2.2.2 hm2)
          rw [x4] at st
          have hd2 : DD (t.turn (olt p v) (v % 12 / 3) ((v % 3 : Nat) : Int)) c ≤ (m : Int) := by
            have := st.2 (fun _ => 1)
            unfold DD at c2 ⊢
            rw [this] at c2
            rw [e4]
            omega
          have cc := F.2 c st.1 hd2
          have i1 := ih.1.2.1 cc.1
          refine ⟨i1.1, ?_⟩
          have := st.2 W
          have cc2 := cc.2
          unfold CC at cc2 ⊢
          rw [this]
          rw [e4] at cc2
          have i2 := i1.2
          omega
        · exact ih.2 c c1 c2 ⟨x, by omega, x2, x3, x4⟩
theorem opt_hit {t : Tn} {p : Nat × Nat} {a : Nat × Nat} (h2 : a.2 < 4) (h : a.1 = p.1 ∨ a.1 = p.2) {s : Nat} (hs : s < 3) : ∃ x, x < 24 ∧ olt p x = a.1 ∧ x % 12 / 3 = a.2 ∧ x % 3 = s := by
  rcases h with e | e
  · refine ⟨3 * a.2 + s, by omega, ?_, by omega, by omega⟩
    unfold olt
    rw [if_pos (by omega), e]
  · refine ⟨12 + 3 * a.2 + s, by omega, ?_, by omega, by omega⟩
    unfold olt
    rw [if_neg (by omega), e]
theorem rf_R {W : Nat → Int} : ∀ (m : Nat) (t : Tn) (U : Nat → Bool) (a b : Int), t.Ok → WP W t → 0 ≤ a → -1 ≤ b → RR W m t U a b (rf W m t U a b) ∧ ∀ c, tg t U c → DD t c ≤ (m : Int) → rf W m t U a b ≠ -1 ∧ rf W m t U a b ≤ a + CC W t c
  | 0, t, U, a, b, ok, hW, ha, hb => by
    unfold rf
    by_cases q : t.wl.length = 0
    · have B := bet_R ha hb
      have hw : t.wl = [] := List.length_eq_zero_iff.mp q
      rw [if_pos q]
      refine ⟨⟨by omega, fun w => ⟨by omega, B.2.2.1 w⟩, ?_⟩, fun c hc _ => ⟨by omega, by have := CC_0 hW hc; omega⟩⟩
      rcases B.2.2.2 with e | e
      · exact Or.inl e
      · refine Or.inr ⟨t.code, tg_here U hw, ?_, ?_⟩
        · unfold DD
          rw [df_same]; decide
        · unfold CC
          rw [df_same, e]; omega
    · rw [if_neg q]
      refine ⟨⟨hb, fun w => ⟨w, Int.le_refl _⟩, Or.inl rfl⟩, fun c hc hd => ?_⟩
      have n := wl_need ok hc
      unfold DD at hd
      omega
  | m + 1, t, U, a, b, ok, hW, ha, hb => by
    unfold rf
    by_cases q : t.wl.length = 0
    · have B := bet_R ha hb
      have hw : t.wl = [] := List.length_eq_zero_iff.mp q
      rw [if_pos q]
      refine ⟨⟨by omega, fun w => ⟨by omega, B.2.2.1 w⟩, ?_⟩, fun c hc _ => ⟨by omega, by have := CC_0 hW hc; omega⟩⟩
      rcases B.2.2.2 with e | e
      · exact Or.inl e
      · refine Or.inr ⟨t.code, tg_here U hw, ?_, ?_⟩
        · unfold DD
          rw [df_same]; omega
        · unfold CC
          rw [df_same, e]; omega
    · rw [if_neg q]
      by_cases q2 : t.wl.length ≤ 4 * (m + 1)
      · have hp := wl_mem.mp (getD_mem (0, 0) (show 0 < t.wl.length by omega))
        have hl := prs_lt ok hp.1
        have hw := wrong_b hp.2
        rw [if_pos q2]
        have F := rfo_R (W := W) (m := m) ok hW (U := U) ha (p := t.wl.getD 0 (0, 0)) ⟨by omega, hw.1⟩ ⟨hl.2.1, hw.2.1⟩ (f := rf W m) (fun t' U' a' b' o w a1 b1 => rf_R m t' U' a' b' o w a1 b1) 24 0 b (by omega) hb
        refine ⟨F.1, fun c hc hd => F.2 c hc hd ?_⟩
        obtain ⟨x, x1, x2⟩ := atts_hit hw.2.2 (hc.2 _ hp.1 hw.1 hw.2.1)
        have am := atts_mem.mp x1
        have lt1 : x.1 < t.lots := by
          rcases am.2.2 with e | e <;> rw [e] <;> omega
        have cq := hc.1 _ (show 4 * x.1 + x.2 < 4 * t.lots by omega) x2
        obtain ⟨s, hs⟩ := Int.eq_ofNat_of_zero_le cq.2.1
        obtain ⟨v, v1, v2, v3, v4⟩ := opt_hit (t := t) am.1 am.2.2 (s := s) (by omega)
        exact ⟨v, Nat.zero_le _, v1, by rw [v2, v3]; exact x2, by rw [v2, v3, v4]; exact hs⟩
      · rw [if_neg q2]
        refine ⟨⟨hb, fun w => ⟨w, Int.le_refl _⟩, Or.inl rfl⟩, fun c hc hd => ?_⟩
        have n := wl_need ok hc
        unfold DD at hd
        omega
theorem QW_wl {t : Tn} (ok : t.Ok) : QW t t.wl := by
  unfold QW
  rw [show t.wl.map orw = t.wl from by
    refine (List.map_congr_left (g := id) (fun p hp => ?_)).trans (List.map_id _)
    show orw p = p
    unfold orw
    rw [if_pos (prs_lt ok (wl_mem.mp hp).1).1]]
/-- the same least cost -/
theorem nd_rf {W : Nat → Int} (r : Nat) {t : Tn} (ok : t.Ok) (hW : WP W t) (L : Nat → Bool) : nd W r t L t.wl = rf W r t L 0 (-1) := by
  have N := nd_R r t L t.wl ok hW (QW_wl ok)
  have R := rf_R r t L 0 (-1) ok hW (Int.le_refl _) (Int.le_refl _)
  by_cases q : nd W r t L t.wl = -1
  · rcases R.1.2.2 with e | ⟨c, c1, c2, c3⟩
    · rw [q, e]
    · exact absurd q (N.2.2 c c1 c2).1
  · obtain ⟨c, c1, c2, c3⟩ := N.2.1 q
    have r1 := R.2 c c1 c2
    rcases R.1.2.2 with e | ⟨c', c1', c2', c3'⟩
    · exact absurd e r1.1
    · have n1 := N.2.2 c' c1' c2'
      have := r1.2
      have := n1.2
      omega
