/-! ===== the class's search answers the least cost ===== -/
theorem tg_weak {t : Tn} {L L' : Nat → Bool} {c : Nat → Int} (h : tg t L' c) (hL : ∀ m, L m = true → L' m = true) : tg t L c := by
  refine ⟨fun m hm hw => ?_, h.2⟩
  have q := h.1 m hm hw
  refine ⟨q.1, q.2.1, q.2.2.1, ?_⟩
  cases e : L m with
  | false => rfl
  | true =>
    have := q.2.2.2
    rw [hL m e] at this
    cases this
def HG (W : Nat → Int) (r : Nat) (t : Tn) (g : (Nat → Bool) → Nat → Nat → Int) (a : Nat × Nat) : Prop := ∀ L : Nat → Bool, L (4 * a.1 + a.2) = false → -1 ≤ g (lk1 L (4 * a.1 + a.2)) a.1 a.2 ∧ Snd W (r + 1) t L (g (lk1 L (4 * a.1 + a.2)) a.1 a.2) ∧ (∀ c, tg t L c → DD t c ≤ ((r + 1 : Nat) : Int) → mkx t.code (4 * a.1 + a.2) ≠ mkx c (4 * a.1 + a.2) → g (lk1 L (4 * a.1 + a.2)) a.1 a.2 ≠ -1 ∧ g (lk1 L (4 * a.1 + a.2)) a.1 a.2 ≤ CC W t c)
theorem fld_R {W : Nat → Int} {r : Nat} {t : Tn} {g : (Nat → Bool) → Nat → Nat → Int} : ∀ (A : List (Nat × Nat)) (best : Int) (L : Nat → Bool), (∀ a ∈ A, a.1 < t.lots ∧ a.2 < 4) → -1 ≤ best → (∀ a ∈ A, HG W r t g a) → -1 ≤ (fld g A best L).1 ∧ (best ≠ -1 → (fld g A best L).1 ≠ -1 ∧ (fld g A best L).1 ≤ best) ∧ ((fld g A best L).1 = best ∨ ∃ c, tg t L c ∧ DD t c ≤ ((r + 1 : Nat) : Int) ∧ CC W t c = (fld g A best L).1) ∧ (∀ c, tg t L c → DD t c ≤ ((r + 1 : Nat) : Int) → (∃ a ∈ A, mkx t.code (4 * a.1 + a.2) ≠ mkx c (4 * a.1 + a.2)) → (fld g A best L).1 ≠ -1 ∧ (fld g A best L).1 ≤ CC W t c)
  | [], best, L, _, hb, _ => ⟨hb, fun h => ⟨h, Int.le_refl _⟩, Or.inl rfl, fun c _ _ ⟨a, ha, _⟩ => by cases ha⟩
  | a :: A, best, L, hA, hb, H => by
    have ha := hA a (List.mem_cons_self ..)
    have hA' := fun b hb' => hA b (List.mem_cons_of_mem _ hb')
    have H' := fun b hb' => H b (List.mem_cons_of_mem _ hb')
    unfold fld
    by_cases q : L (4 * a.1 + a.2) = true
    · rw [if_pos q]
      have m := mn_R hb (show (-1 : Int) ≤ -1 from Int.le_refl _)
      have e : mn best (-1) = best := by
        rcases m.2.1 with e | e
        · exact e
        · by_cases w : best = -1
          · rw [e, w]
          · exact absurd e (m.2.2.1 w).1
      rw [e]
      have ih := fld_R A best L hA' hb H'
      refine ⟨ih.1, ih.2.1, ih.2.2.1, fun c c1 c2 c3 => ih.2.2.2 c c1 c2 ?_⟩
      obtain ⟨b, hb1, hb2⟩ := c3
      rcases List.mem_cons.mp hb1 with w | w
      · rw [w] at hb2
        have := (c1.1 _ (by omega) hb2).2.2.2
        rw [q] at this
        cases this
      · exact ⟨b, w, hb2⟩
    · have q : L (4 * a.1 + a.2) = false := by
        cases w : L (4 * a.1 + a.2) with
        | false => rfl
        | true => exact absurd w q
      obtain ⟨g1, g2, g3⟩ := H a (List.mem_cons_self ..) L q
      have m := mn_R hb g1
      have ih := fld_R A (mn best (g (lk1 L (4 * a.1 + a.2)) a.1 a.2)) (lk1 L (4 * a.1 + a.2)) hA' m.1 H'
      rw [if_neg (by rw [q]; decide)]
      refine ⟨ih.1, fun w => ?_, ?_, fun c c1 c2 c3 => ?_⟩
      · have m1 := m.2.2.1 w
        have i1 := ih.2.1 m1.1
        exact ⟨i1.1, Int.le_trans i1.2 m1.2⟩
      · rcases ih.2.2.1 with e | ⟨c, c1, c2, c3⟩
        · rcases m.2.1 with e2 | e2
          · exact Or.inl (e.trans e2)
          · by_cases w : g (lk1 L (4 * a.1 + a.2)) a.1 a.2 = -1
            · by_cases wb : best = -1
              · exact Or.inl (by rw [e, e2, w, wb])
              · have := m.2.2.1 wb
                rw [e2, w] at this
                exact absurd rfl this.1
            · obtain ⟨c, c1, c2, c3⟩ := g2 w
              exact Or.inr ⟨c, c1, c2, c3.trans (e2.symm.trans e.symm)⟩
        · exact Or.inr ⟨c, tg_weak c1 (fun m hm => lk1_up hm), c2, c3⟩
      · by_cases w : mkx t.code (4 * a.1 + a.2) = mkx c (4 * a.1 + a.2)
        · refine ih.2.2.2 c ⟨fun m hm hw => ?_, c1.2⟩ c2 ?_
          · have := c1.1 m hm hw
            exact ⟨this.1, this.2.1, this.2.2.1, lk1_f this.2.2.2 (fun e => by rw [e] at hw; exact hw w)⟩
          · obtain ⟨b, hb1, hb2⟩ := c3
            rcases List.mem_cons.mp hb1 with w2 | w2
            · rw [w2] at hb2
              exact absurd w hb2
            · exact ⟨b, w2, hb2⟩
        · have g4 := g3 c c1 c2 w
          have m1 := m.2.2.2 g4.1
          have i1 := ih.2.1 m1.1
          exact ⟨i1.1, Int.le_trans i1.2 (Int.le_trans m1.2 g4.2)⟩
theorem atts_mem {t : Tn} {p : Nat × Nat} {a : Nat × Nat} : a ∈ atts t p ↔ a.2 < 4 ∧ mskx t p a.2 = true ∧ (a.1 = p.1 ∨ a.1 = p.2) := by
  unfold atts
  rw [List.mem_flatMap]
  constructor
  · rintro ⟨k, hk, ha⟩
    rw [List.mem_filter, List.mem_range] at hk
    rcases List.mem_cons.mp ha with e | e
    · rw [e]; exact ⟨hk.1, hk.2, Or.inl rfl⟩
    · rcases List.mem_cons.mp e with e | e
      · rw [e]; exact ⟨hk.1, hk.2, Or.inr rfl⟩
      · cases e
  · rintro ⟨h1, h2, h3⟩
    refine ⟨a.2, List.mem_filter.mpr ⟨List.mem_range.mpr h1, h2⟩, ?_⟩
    rcases h3 with e | e
    · rw [← e]; exact List.mem_cons_self ..
    · rw [← e]; exact List.mem_cons_of_mem _ (List.mem_cons_self ..)
theorem atts_hit {t : Tn} {p : Nat × Nat} {c : Nat → Int} (h1 : t.go (t.code p.1) (t.code p.2) = false) (h2 : t.go (c p.1) (c p.2) = true) : ∃ a ∈ atts t p, mkx t.code (4 * a.1 + a.2) ≠ mkx c (4 * a.1 + a.2) := by
  unfold Tn.go at h1 h2
  rw [Bool.and_eq_true] at h2
  have g1 := of_decide_eq_true h2.1
  have g2 := of_decide_eq_true h2.2
  by_cases q : alk (t.code p.1) (t.code p.2) < t.least
  · obtain ⟨k, k1, k2, k3⟩ := must_up (f := t.code) (g := c) (a := p.1) (b := p.2) (by omega)
    have mk1 : mskx t p k = true := by
      unfold mskx
      rw [if_pos q, k2]; rfl
    rcases k3 with w | w
    · exact ⟨(p.1, k), atts_mem.mpr ⟨k1, mk1, Or.inl rfl⟩, w⟩
    · exact ⟨(p.2, k), atts_mem.mpr ⟨k1, mk1, Or.inr rfl⟩, w⟩
  · rw [decide_eq_true (show t.least ≤ alk (t.code p.1) (t.code p.2) by omega), Bool.true_and] at h1
    have g3 := of_decide_eq_false h1
    obtain ⟨k, k1, k2, k3⟩ := must_dn (f := t.code) (g := c) (a := p.1) (b := p.2) (by omega)
    have mk1 : mskx t p k = true := by
      unfold mskx
      rw [if_neg q, k2]; rfl
    rcases k3 with w | w
    · exact ⟨(p.1, k), atts_mem.mpr ⟨k1, mk1, Or.inl rfl⟩, w⟩
    · exact ⟨(p.2, k), atts_mem.mpr ⟨k1, mk1, Or.inr rfl⟩, w⟩
theorem ned_le {t : Tn} (ok : t.Ok) {L : Nat → Bool} {c : Nat → Int} (h : tg t L c) {Q : List (Nat × Nat)} (hQ : QW t Q) : ned t Q ≤ DD t c := by
  have a := wl_need ok h
  have b := gaps_need ok h hQ
  have e := hQ.len
  unfold ned DD
  omega
theorem nd_R {W : Nat → Int} : ∀ (r : Nat) (t : Tn) (L : Nat → Bool) (Q : List (Nat × Nat)), t.Ok → WP W t → QW t Q → -1 ≤ nd W r t L Q ∧ Snd W r t L (nd W r t L Q) ∧ Cpl W r t L (nd W r t L Q)
  | 0, t, L, Q, ok, hW, hQ => by
    unfold nd
    by_cases q : Q.length = 0
    · have hw : t.wl = [] := List.length_eq_zero_iff.mp (hQ.len.symm.trans q)
      rw [if_pos q]
      exact ⟨by decide, fun _ => ⟨t.code, tg_here L hw, by
        unfold DD
        rw [df_same]; decide, df_same _ _ _⟩, fun c hc _ => ⟨by decide, CC_0 hW hc⟩⟩
    · rw [if_neg q]
      refine ⟨Int.le_refl _, fun w => absurd rfl w, fun c hc hd => ?_⟩
      have n := ned_le ok hc hQ
      unfold ned at n
      omega
  | r + 1, t, L, Q, ok, hW, hQ => by
    unfold nd
    by_cases q : Q.length = 0
    · have hw : t.wl = [] := List.length_eq_zero_iff.mp (hQ.len.symm.trans q)
      rw [if_pos q]
      exact ⟨by decide, fun _ => ⟨t.code, tg_here L hw, by
        unfold DD
        rw [df_same]; omega, df_same _ _ _⟩, fun c hc _ => ⟨by decide, CC_0 hW hc⟩⟩
    · rw [if_neg q]
      by_cases q2 : ((r + 1 : Nat) : Int) < ned t Q
      · rw [if_pos q2]
        refine ⟨Int.le_refl _, fun w => absurd rfl w, fun c hc hd => ?_⟩
        have n := ned_le ok hc hQ
        omega
      · rw [if_neg q2]
        have hp := hQ.mem ok (getD_mem (0, 0) (show 0 < Q.length by omega))
        have hw := wrong_b hp.2.2.2.1
        have F := fld_R (W := W) (r := r) (t := t) (g := fun L' l k => ads (trs (fun t' => nd W r t' L' (nxt t' l Q)) t l k) (W (4 * l + k))) (atts t (Q.getD 0 (0, 0))) (-1) L (fun a ha => by
          have m := atts_mem.mp ha
          refine ⟨?_, m.1⟩
          rcases m.2.2 with e | e
          · rw [e]; exact hp.1
          · rw [e]; exact hp.2.1) (Int.le_refl _) (fun a ha => by
          have m := atts_mem.mp ha
          have al : a.1 < t.lots ∧ t.bound a.1 = true := by
            rcases m.2.2 with e | e
            · rw [e]; exact ⟨hp.1, hw.1⟩
            · rw [e]; exact ⟨hp.2.1, hw.2.1⟩
          intro L0 hL0
          have IH : ∀ s : Nat, s < 3 → -1 ≤ nd W r (t.turn a.1 a.2 (s : Int)) (lk1 L0 (4 * a.1 + a.2)) (nxt (t.turn a.1 a.2 (s : Int)) a.1 Q) ∧ Snd W r (t.turn a.1 a.2 (s : Int)) (lk1 L0 (4 * a.1 + a.2)) (nd W r (t.turn a.1 a.2 (s : Int)) (lk1 L0 (4 * a.1 + a.2)) (nxt (t.turn a.1 a.2 (s : Int)) a.1 Q)) ∧ Cpl W r (t.turn a.1 a.2 (s : Int)) (lk1 L0 (4 * a.1 + a.2)) (nd W r (t.turn a.1 a.2 (s : Int)) (lk1 L0 (4 * a.1 + a.2)) (nxt (t.turn a.1 a.2 (s : Int)) a.1 Q)) := fun s hs => nd_R r _ _ _ (turn_ok ok al.1 (Tn.bound_ne al.2) m.1 (by omega)) (WP_turn hW _ _ _) (hQ.next ok al.1)
          exact try_s' ok hW al.1 al.2 m.1 hL0 (f := fun t' => nd W r t' (lk1 L0 (4 * a.1 + a.2)) (nxt t' a.1 Q)) (fun s hs => (IH s hs).1) (fun s hs => (IH s hs).2.1) (fun s hs => (IH s hs).2.2))
        refine ⟨F.1, fun w => ?_, fun c hc hd => F.2.2.2 c hc hd (atts_hit hw.2.2 (tg_go hc hp.2.2.2.2 hw.1 hw.2.1))⟩
        rcases F.2.2.1 with e | e
        · exact absurd e w
        · exact e
