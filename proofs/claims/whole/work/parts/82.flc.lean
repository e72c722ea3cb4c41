/-! ===== lots filled anew, in the class ===== -/
def Tn.Ep (t : Tn) (l : Nat) : List Nat := (List.range l).filter (fun l => t.kind l == -1)
theorem Ep_succ (t : Tn) (l : Nat) : t.Ep (l + 1) = if t.kind l = -1 then t.Ep l ++ [l] else t.Ep l := by
  unfold Tn.Ep
  rw [List.range_succ, List.filter_append]
  by_cases q : t.kind l = -1
  · rw [if_pos q, List.filter_cons_of_pos (by rw [q]; rfl)]; rfl
  · rw [if_neg q, List.filter_cons_of_neg (by rw [beq_false_of_ne q]; decide), List.filter_nil, List.append_nil]
theorem getD_app {l r : List Nat} {i : Nat} (h : i < l.length) : (l ++ r).getD i 0 = l.getD i 0 := by
  rw [List.getD_eq_getElem?_getD, List.getD_eq_getElem?_getD, List.getElem?_append_left h]
theorem getD_end (l : List Nat) (x : Nat) : (l ++ [x]).getD l.length 0 = x := by
  rw [List.getD_eq_getElem?_getD, List.getElem?_append_right (Nat.le_refl _), Nat.sub_self]; rfl
def LSt (c : Nat) (l : List Nat) (μ : amM) : Prop := ∀ i, i < l.length → μ c i = (l.getD i 0 : Nat)
theorem LSt.more {c : Nat} {l : List Nat} {μ : amM} (h : LSt c l μ) (x : Nat) : LSt c (l ++ [x]) (up μ c l.length (x : Int)) := fun i hi => by
  by_cases q : i = l.length
  · rw [q, up_eq, getD_end]
  · rw [List.length_append] at hi
    have hi : i < l.length := by
      have : ([x] : List Nat).length = 1 := rfl
      omega
    rw [up_ne _ _ _ _ (Or.inr q), getD_app hi]
    exact h i hi
def FL (c i : Nat) : Bool := Nat.beq c 3 || Nat.beq c 4 || Nat.beq c 5 || Nat.beq c 53 || Nat.beq c 54 || (Nat.beq c 52 && Nat.beq i 2)
theorem FL_e {c i : Nat} (h : FL c i = true) : c = 3 ∨ c = 4 ∨ c = 5 ∨ c = 53 ∨ c = 54 ∨ (c = 52 ∧ i = 2) := by
  unfold FL at h
  rw [Bool.or_eq_true, Bool.or_eq_true, Bool.or_eq_true, Bool.or_eq_true, Bool.or_eq_true, Bool.and_eq_true] at h
  rcases h with ((((h | h) | h) | h) | h) | ⟨h, h2⟩
  · exact Or.inl (Nat.eq_of_beq_eq_true h)
  · exact Or.inr (Or.inl (Nat.eq_of_beq_eq_true h))
  · exact Or.inr (Or.inr (Or.inl (Nat.eq_of_beq_eq_true h)))
  · exact Or.inr (Or.inr (Or.inr (Or.inl (Nat.eq_of_beq_eq_true h))))
  · exact Or.inr (Or.inr (Or.inr (Or.inr (Or.inl (Nat.eq_of_beq_eq_true h)))))
  · exact Or.inr (Or.inr (Or.inr (Or.inr (Or.inr ⟨Nat.eq_of_beq_eq_true h, Nat.eq_of_beq_eq_true h2⟩))))
theorem FL_T {μ μ' : amM} (h : same FL μ μ') : same (or2 gT ScC) μ μ' := h.wide (fun c i q => by
  cases e : FL c i with
  | false => rfl
  | true =>
    rcases FL_e e with rfl | rfl | rfl | rfl | rfl | ⟨rfl, rfl⟩ <;> cases q)
theorem FL_F {μ μ' : amM} (h : same FL μ μ') : same FC μ μ' := h.wide (fun c i q => by
  cases e : FL c i with
  | false => rfl
  | true =>
    rcases FL_e e with rfl | rfl | rfl | rfl | rfl | ⟨rfl, rfl⟩ <;> cases q)
theorem SL_L {lot : Nat} {μ μ' : amM} (h : same (SL lot) μ μ') : same FL μ μ' := h.wide (fun c i q => by
  cases e : SL lot c i with
  | false => rfl
  | true =>
    unfold SL at e
    rw [Bool.and_eq_true, Bool.or_eq_true, Bool.or_eq_true] at e
    rcases e.1 with (e | e) | e <;> (rw [Nat.eq_of_beq_eq_true e] at q; cases q))
def SB (c i : Nat) : Bool := Nat.beq c 53 || Nat.beq c 54 || (Nat.beq c 52 && Nat.beq i 2)
theorem SB_L {μ μ' : amM} (h : same SB μ μ') : same FL μ μ' := h.wide (fun c i q => by
  unfold FL at q
  unfold SB
  cases e1 : Nat.beq c 53 <;> cases e2 : Nat.beq c 54 <;> cases e3 : Nat.beq c 52 && Nat.beq i 2 <;> rw [e1, e2, e3] at q <;> simp at q ⊢)
theorem TC.kb {t : Tn} {μ μ' : amM} (h : TC 2 t μ) (hs : same SB μ μ') : TC 2 t μ' := h.keep hs (fun i _ _ => rfl) (fun _ => rfl) (fun _ => rfl) (fun _ => rfl) (fun _ => rfl) (fun _ => rfl)
theorem list_c (d : Nat) {t : Tn} (ok : t.Ok) : ∀ (n l : Nat) (μ : amM), l + n = t.lots → TC 2 t μ → μ 52 2 = ((t.Ep l).length : Nat) → LSt 53 (t.Ep l) μ → ∃ μ', At cr2 d 2 1 [] [52, 2, (l : Int)] μ = At cr2 d 2 3 [] [52, 0, 0] μ' ∧ TC 2 t μ' ∧ μ' 52 2 = (t.ne : Int) ∧ LSt 53 t.E μ' ∧ same SB μ μ'
  | 0, l, μ, hl, h, hc, hs => by
    have e := h.1.2.2.2.1
    rw [B2_1, e, if_neg (by omega)]
    rw [show l = t.lots by omega] at hc hs
    exact ⟨μ, rfl, h, hc, hs, same.rf⟩
  | n + 1, l, μ, hl, h, hc, hs => by
    have e := h.1.2.2.2.1
    have h64 := ok.le.2
    have hlen : (t.Ep l).length ≤ l := by
      have := List.length_filter_le (fun l => t.kind l == -1) (List.range l)
      rw [List.length_range] at this
      exact this
    rw [B2_1, e, if_pos (by omega), rd_p (by omega) (by omega), Int.toNat_natCast, (h.2.1 l (by omega)).1]
    have ep := Ep_succ t l
    by_cases q : t.kind l = -1
    · rw [if_pos q] at ep
      have s1 : same SB μ (up (up μ 53 (t.Ep l).length (l : Int)) 52 2 (((t.Ep l).length + 1 : Nat) : Int)) := (same.rf.up rfl).up rfl
      obtain ⟨μ', g1, g2, g3, g4, g5⟩ := list_c d ok n (l + 1) (up (up μ 53 (t.Ep l).length (l : Int)) 52 2 (((t.Ep l).length + 1 : Nat) : Int)) (by omega) (h.kb s1) (by
        rw [up_eq, ep, List.length_append]; rfl) (fun i hi => by
        rw [up_ne _ _ _ _ (Or.inl (by decide)), ep]
        rw [ep] at hi
        exact hs.more l i hi)
      refine ⟨μ', ?_, g2, g3, g4, s1.tn g5⟩
      rw [if_pos q, hc, wr_p (by omega) (by omega), Int.toNat_natCast, up_ne _ _ _ _ (Or.inl (by decide)), hc, wf_e, B2_2, w32_i (by omega) (by omega), w32_i (by omega) (by omega)]
      exact g1
    · rw [if_neg q] at ep
      rw [if_neg q, B2_2, w32_i (by omega) (by omega)]
      exact list_c d ok n (l + 1) μ (by omega) h (by rw [ep]; exact hc) (by rw [ep]; exact hs)
theorem next_c (d : Nat) {μ : amM} {ne : Nat} (h64 : ne ≤ 64) (hn : μ 52 2 = (ne : Int)) (p : Nat) : ∃ μ', RD cr2 (d + 1) 3 [52, (p : Int)] μ = some (0, μ') ∧ (p < ne → μ' = up μ 54 p 0) ∧ (¬ p < ne → μ' = μ) := by
  rw [M3, hn]
  by_cases q : p < ne
  · rw [if_pos (by omega), wr_p (by omega) (by omega), Int.toNat_natCast, B3_1]
    exact ⟨_, rfl, fun _ => rfl, fun w => absurd q w⟩
  · rw [if_neg (by omega), B3_1]
    exact ⟨_, rfl, fun w => absurd w q, fun _ => rfl⟩
theorem none_c (d : Nat) {t : Tn} (ok : t.Ok) {T : Tn} : ∀ (n i : Nat) (μ : amM), i + n = t.ne → TC 2 (t.em T i) μ → μ 52 2 = (t.ne : Int) → LSt 53 t.E μ → ∃ μ', At cr2 d 5 1 [] [52, 2, (i : Int)] μ = some (0, μ') ∧ TC 2 (t.em T t.ne) μ' ∧ same FL μ μ'
  | 0, i, μ, hi, h, hn, hs => by
    rw [B5_1, hn, if_neg (by omega), B5_2]
    rw [show i = t.ne by omega] at h
    exact ⟨μ, rfl, h, same.rf⟩
  | n + 1, i, μ, hi, h, hn, hs => by
    have h64 := ne_le ok
    have he := e_lt (t := t) (i := i) (by omega)
    have hl := ok.le.2
    have hu : same (SL (t.e i)) μ (up μ 3 (t.e i) (-1)) := same.rf.up (SL_3 _)
    obtain ⟨μ', g1, g2, g3⟩ := none_c d ok (T := T) n (i + 1) (up μ 3 (t.e i) (-1)) (by omega) (h.put hu (up_eq _ _ _ _) (fun w => absurd rfl w)) ((up_ne _ _ _ _ (Or.inl (by decide))).trans hn) (fun k hk => (up_ne _ _ _ _ (Or.inl (by decide))).trans (hs k hk))
    refine ⟨μ', ?_, g2, (SL_L hu).tn g3⟩
    rw [B5_1, hn, if_pos (by omega), rd_p (by omega) (by omega), Int.toNat_natCast, hs i (show i < t.E.length from by
      show i < t.ne
      omega), show t.E.getD i 0 = t.e i from rfl, wr_p (by omega) (by omega), Int.toNat_natCast, w32_i (by omega) (by omega)]
    exact g1
/-- where the search ends, and how the town is left -/
def Tn.fe (t : Tn) (r : Nat × (Nat → Nat)) : Tn := if r.1 = 0 then t.ft r.2 t.ne else t
def XC (t : Tn) (p : Nat) (nx : Nat → Nat) (μ : amM) : Prop := TC 2 (t.ft nx p) μ ∧ μ 52 2 = (t.ne : Int) ∧ LSt 53 t.E μ ∧ ∀ i, i ≤ p → i < t.ne → μ 54 i = (nx i : Nat)
theorem ft_more (t : Tn) (nx : Nat → Nat) (p : Nat) : t.ft (nset nx p (nx p + 1)) p = t.ft nx p := ft_congr p (fun j hj => nset_ne _ _ (by omega))
theorem ft_on (t : Tn) (nx : Nat → Nat) (p : Nat) : t.ft (nset (nset nx p (nx p + 1)) (p + 1) 0) (p + 1) = (t.ft nx p).put (t.e p) 0 0 (hc (nx p : Int)) := by
  show (t.ft (nset (nset nx p (nx p + 1)) (p + 1) 0) p).put (t.e p) 0 0 (hc (((nset (nset nx p (nx p + 1)) (p + 1) 0 p : Nat) : Int) - 1)) = _
  rw [ft_congr (nx' := nx) p (fun j hj => by rw [nset_ne _ _ (by omega), nset_ne _ _ (by omega)]), nset_ne _ _ (by omega), nset_eq, show ((nx p + 1 : Nat) : Int) - 1 = (nx p : Int) by omega]
theorem fill_lc (d : Nat) {t : Tn} (ok : t.Ok) : ∀ (n p k : Nat) (nx : Nat → Nat) (u : Nat) (μ : amM), NX p nx → p ≤ t.ne → 2 * (20000 - k) + p + 1 ≤ n → k ≤ 20000 → u + n ≤ 100000 → XC t p nx μ → ∃ μ', At cr2 (d + 5) 1 1 [] [52, 2, (k : Int), (p : Int), (u : Int), 0] μ = some (((t.fl n p k nx).1 : Int), μ') ∧ TC 2 (t.fe (t.fl n p k nx)) μ' ∧ ((t.fl n p k nx).1 = 0 → μ' 52 2 = (t.ne : Int)) ∧ same FL μ μ'
  | 0, _, _, _, _, _, _, _, h, _, _, _ => by omega
  | n + 1, p, k, nx, u, μ, hx, hp, hf, hk, hu, h => by
    obtain ⟨h1, h2, h3, h4⟩ := h
    have h64 := ne_le ok
    have hl := ok.le.2
    have hft := ft_ok ok p hx.1
    unfold Tn.fl
    by_cases q : p = t.ne
    · rw [if_pos q, B1_1, if_pos (by omega), if_neg (by omega), h2, if_neg (by omega), B1_5, if_neg (by omega), B1_6, B1_7]
      refine ⟨μ, rfl, ?_, fun _ => h2, same.rf⟩
      rw [q] at h1
      exact h1
    · have hpn : p < t.ne := by omega
      have he := e_lt hpn
      have e53 : μ 53 p = (t.e p : Nat) := h3 p hpn
      have e54 := h4 p (Nat.le_refl _) hpn
      have hxp := hx.2
      rw [if_neg q, B1_1, if_pos (by omega), if_neg (by omega), h2, if_pos (by omega), rd_p (by omega) (by omega), Int.toNat_natCast, e54]
      by_cases q1 : nx p < 81
      · rw [if_pos (by omega), if_pos q1, B1_2]
        by_cases q2 : k < 20000
        · have s1 : same SB μ (up μ 54 p ((nx p + 1 : Nat) : Int)) := same.rf.up rfl
          have h1' := h1.kb s1
          have e53' : up μ 54 p ((nx p + 1 : Nat) : Int) 53 p = (t.e p : Nat) := (up_ne _ _ _ _ (Or.inl (by decide))).trans e53
          have f54 : ∀ i, i ≤ p → i < t.ne → up μ 54 p ((nx p + 1 : Nat) : Int) 54 i = (nset nx p (nx p + 1) i : Nat) := fun i hi1 hi2 => by
            by_cases e : i = p
            · rw [e, up_eq, nset_eq]
            · rw [up_ne _ _ _ _ (Or.inr e), nset_ne _ _ e]
              exact h4 i hi1 hi2
          have f53 : LSt 53 t.E (up μ 54 p ((nx p + 1 : Nat) : Int)) := fun i hi => (up_ne _ _ _ _ (Or.inl (by decide))).trans (h3 i hi)
          have f52 : up μ 54 p ((nx p + 1 : Nat) : Int) 52 2 = (t.ne : Int) := (up_ne _ _ _ _ (Or.inl (by decide))).trans h2
          rw [if_pos (by omega), if_pos q2, B1_3, rd_p (by omega) (by omega), Int.toNat_natCast, e54, wr_p (by omega) (by omega), Int.toNat_natCast, w32_i (x := (nx p : Int) + 1) (by omega) (by omega), show (nx p : Int) + 1 = ((nx p + 1 : Nat) : Int) from rfl, rd_p (by omega) (by omega), Int.toNat_natCast, e53', codeOf_e _ _ (by omega), bnd_s, mayStand_e (d + 1) hft h1' (lot := t.e p) (by rw [ft_lots]; exact he.1) (hc_R (by omega)), bnd_s]
          cases q3 : (t.ft nx p).may (t.e p) (hc (nx p : Int)) with
          | false =>
            obtain ⟨μ', g1, g2, g3, g4⟩ := fill_lc d ok n p (k + 1) (nset nx p (nx p + 1)) (u + 1) _ (hx.more q1) hp (by omega) (by omega) (by omega) ⟨by rw [ft_more]; exact h1', f52, f53, f54⟩
            rw [if_pos (by rfl), if_neg (by decide), B1_4, w32_i (by omega) (by omega), w32_i (by omega) (by omega)]
            exact ⟨μ', g1, g2, g3, (SB_L s1).tn g4⟩
          | true =>
            have hpl := place_t h1' (t.e p) 0 0 (hc (nx p : Int))
            have s2 := place_s (t.e p) 0 0 (hc (nx p : Int)) (up μ 54 p ((nx p + 1 : Nat) : Int))
            have k52 : up (up (up (up μ 54 p ((nx p + 1 : Nat) : Int)) 3 (t.e p) 0) 4 (t.e p) 0) 5 (t.e p) (hc (nx p : Int)) 52 2 = (t.ne : Int) := by
              rw [up_ne _ _ _ _ (Or.inl (by decide)), up_ne _ _ _ _ (Or.inl (by decide)), up_ne _ _ _ _ (Or.inl (by decide))]
              exact f52
            have k5 : ∀ i c, c = 53 ∨ c = 54 → up (up (up (up μ 54 p ((nx p + 1 : Nat) : Int)) 3 (t.e p) 0) 4 (t.e p) 0) 5 (t.e p) (hc (nx p : Int)) c i = up μ 54 p ((nx p + 1 : Nat) : Int) c i := fun i c hc' => by
              rw [up_ne _ _ _ _ (Or.inl (by omega)), up_ne _ _ _ _ (Or.inl (by omega)), up_ne _ _ _ _ (Or.inl (by omega))]
            obtain ⟨μ3, a1, a2, a3⟩ := next_c (d + 4) h64 k52 (p + 1)
            have s3 : same SB (up (up (up (up μ 54 p ((nx p + 1 : Nat) : Int)) 3 (t.e p) 0) 4 (t.e p) 0) 5 (t.e p) (hc (nx p : Int))) μ3 := by
              by_cases e : p + 1 < t.ne
              · rw [a2 e]; exact same.rf.up rfl
              · rw [a3 e]; exact same.rf
            have m53 : ∀ i, μ3 53 i = up μ 54 p ((nx p + 1 : Nat) : Int) 53 i := fun i => by
              by_cases e : p + 1 < t.ne
              · rw [a2 e, up_ne _ _ _ _ (Or.inl (by decide)), k5 i 53 (Or.inl rfl)]
              · rw [a3 e, k5 i 53 (Or.inl rfl)]
            have m52 : μ3 52 2 = (t.ne : Int) := by
              by_cases e : p + 1 < t.ne
              · rw [a2 e, up_ne _ _ _ _ (Or.inl (by decide)), k52]
              · rw [a3 e, k52]
            obtain ⟨μ', g1, g2, g3, g4⟩ := fill_lc d ok n (p + 1) (k + 1) (nset (nset nx p (nx p + 1)) (p + 1) 0) (u + 1) μ3 (hx.on q1) (by omega) (by omega) (by omega) (by omega) ⟨by rw [ft_on]; exact hpl.kb s3, m52, fun i hi => (m53 i).trans (f53 i hi), fun i hi1 hi2 => by
              by_cases e : i = p + 1
              · rw [e, nset_eq, a2 (by omega), up_eq]; rfl
              · rw [nset_ne _ _ e]
                have : μ3 54 i = up μ 54 p ((nx p + 1 : Nat) : Int) 54 i := by
                  by_cases e2 : p + 1 < t.ne
                  · rw [a2 e2, up_ne _ _ _ _ (Or.inr e), k5 i 54 (Or.inr rfl)]
                  · rw [a3 e2, k5 i 54 (Or.inr rfl)]
                rw [this]
                exact f54 i (by omega) hi2⟩
            rw [if_neg (by decide), if_pos (show true = true from rfl), rd_p (by omega) (by omega), Int.toNat_natCast, e53', codeOf_e _ _ (by omega), bnd_s, place_e _ (by omega), bnd_s, w32_i (x := (p : Int) + 1) (by omega) (by omega)]
            have a1' : RD cr2 (d + 5) 3 [52, (p : Int) + 1] (up (up (up (up μ 54 p ((nx p + 1 : Nat) : Int)) 3 (t.e p) 0) 4 (t.e p) 0) 5 (t.e p) (hc (nx p : Int))) = some (0, μ3) := a1
            rw [a1', bnd_s, B1_4, w32_i (by omega) (by omega), w32_i (by omega) (by omega)]
            exact ⟨μ', g1, g2, g3, ((SB_L s1).tn ((SL_L s2).tn (SB_L s3))).tn g4⟩
        · rw [if_neg (by omega), if_neg q2, M5]
          obtain ⟨μ', g1, g2, g3⟩ := none_c (d + 4) ok (T := t.ft nx p) t.ne 0 μ (by omega) h1 h2 h3
          have g1' : At cr2 (d + 4) 5 1 [] [52, 2, 0] μ = some (0, μ') := g1
          rw [g1', bnd_s]
          exact ⟨μ', rfl, g2.eqv (em_eqv hp), (fun w => by cases w), g3⟩
      · rw [if_neg (by omega), if_neg q1, M4]
        by_cases q2 : p = 0
        · rw [if_neg (by omega), if_pos q2, B4_1, bnd_s, B1_4, w32_i (by omega) (by omega), w32_i (by omega) (by omega), B1_1, if_pos (by omega), if_pos (by omega), B1_5, if_pos (by omega), B1_7]
          rw [q2] at h1
          exact ⟨μ, rfl, h1, (fun w => by cases w), same.rf⟩
        · obtain ⟨p', rfl⟩ : ∃ p', p = p' + 1 := ⟨p - 1, by omega⟩
          have he' := e_lt (t := t) (i := p') (by omega)
          have e53' : μ 53 p' = (t.e p' : Nat) := h3 p' (show p' < t.ne by omega)
          have hu' : same (SL (t.e p')) μ (up μ 3 (t.e p') (-1)) := same.rf.up (SL_3 _)
          have hT : TC 2 (t.ft nx p') (up μ 3 (t.e p') (-1)) := (h1.put (k := -1) (m := 0) (c := 0) hu' (up_eq _ _ _ _) (fun w => absurd rfl w)).eqv (put_back (ft_hole (show p' < t.ne by omega) p' (Nat.le_refl _)) _ _ _ _ _)
          obtain ⟨μ', g1, g2, g3, g4⟩ := fill_lc d ok n p' k nx (u + 1) (up μ 3 (t.e p') (-1)) (hx.back q2) (by omega) (by omega) hk (by omega) ⟨hT, (up_ne _ _ _ _ (Or.inl (by decide))).trans h2, fun i hi => (up_ne _ _ _ _ (Or.inl (by decide))).trans (h3 i hi), fun i hi1 hi2 => (up_ne _ _ _ _ (Or.inl (by decide))).trans (h4 i (by omega) hi2)⟩
          rw [if_pos (by omega), if_neg q2, Nat.add_sub_cancel, w32_i (by omega) (by omega), show ((p' + 1 : Nat) : Int) - 1 = (p' : Int) by omega, rd_p (by omega) (by omega), Int.toNat_natCast, e53', wr_p (by omega) (by omega), Int.toNat_natCast, B4_1, w32_i (by omega) (by omega), show ((p' + 1 : Nat) : Int) - 1 = (p' : Int) by omega, bnd_s, B1_4, w32_i (by omega) (by omega)]
          exact ⟨μ', g1, g2, g3, (SL_L hu').tn g4⟩
theorem fill_c (d : Nat) {σ : St} {μ : amM} (ok : σ.Ok) (h : CI σ μ) : OC μ (RD cr2 (d + 20) 123 [0] μ) (fillS σ) := by
  have h64 := ne_le ok.t
  have s0 : same SB μ (up μ 52 2 0) := same.rf.up rfl
  obtain ⟨μ1, a1, a2, a3, a4, a5⟩ := list_c (d + 17) ok.t σ.t.lots 0 (up μ 52 2 0) (by omega) (h.tc.kb s0) (up_eq _ _ _ _) (fun i hi => by cases hi)
  obtain ⟨μ2, b1, b2, b3⟩ := next_c (d + 16) h64 a3 0
  have s2 : same SB μ1 μ2 := by
    by_cases e : 0 < σ.t.ne
    · rw [b2 e]; exact same.rf.up rfl
    · rw [b3 e]; exact same.rf
  have m53 : ∀ i, μ2 53 i = μ1 53 i := fun i => by
    by_cases e : 0 < σ.t.ne
    · rw [b2 e, up_ne _ _ _ _ (Or.inl (by decide))]
    · rw [b3 e]
  have m52 : μ2 52 2 = (σ.t.ne : Int) := by
    by_cases e : 0 < σ.t.ne
    · rw [b2 e, up_ne _ _ _ _ (Or.inl (by decide)), a3]
    · rw [b3 e, a3]
  have hs2 : same SB μ μ2 := s0.tn (a5.tn s2)
  obtain ⟨μ3, c1, c2, c3, c4⟩ := fill_lc (d + 13) ok.t 40001 0 0 (fun _ => 0) 0 μ2 NX_0 (Nat.zero_le _) (by omega) (by omega) (by omega) ⟨a2.kb s2, m52, fun i hi => (m53 i).trans (a4 i hi), fun i hi1 hi2 => by
    rw [show i = 0 by omega, b2 (by omega), up_eq]; rfl⟩
  have hs3 : same FL μ μ3 := (SB_L hs2).tn c4
  have e1 : RD cr2 (d + 19) 1 [52, 2] μ = some ((σ.t.fr.1 : Int), μ3) := by
    have b1' : RD cr2 (d + 17) 3 [52, 0] μ1 = some (0, μ2) := b1
    have e2 : RD cr2 (d + 18) 2 [52, 2] μ = some (0, μ2) := by
      rw [M2, wf_e]
      refine a1.trans ?_
      rw [B2_3, b1', bnd_s]
    rw [M1, e2, bnd_s]
    exact c1
  have hci : CI (σ.setT (σ.t.fe σ.t.fr)) μ3 := h.setT (FL_T hs3) c2
  rw [M123, e1, bnd_s]
  unfold fillS
  rcases fl_R σ.t 40001 0 0 (fun _ => 0) (Nat.zero_le _) NX_0 with ⟨h0, -⟩ | h0 | h0
  · have h0 : σ.t.fr.1 = 0 := h0
    rw [if_pos (by omega), if_pos h0, B123_2, c3 h0]
    unfold Tn.fe at hci
    rw [if_pos h0] at hci
    exact ⟨μ3, rfl, hci, FL_F hs3⟩
  · have h0 : σ.t.fr.1 = 2 := h0
    rw [if_neg (by omega), if_neg (by omega), B123_1, h0]
    unfold Tn.fe at hci
    rw [if_neg (show ¬ σ.t.fr.1 = 0 from by omega)] at hci
    exact OC.tr ((OC.no _ (show CI σ μ3 from hci) (by decide) (by decide)).bi (fun _ _ => by rw [B123_2])) (FL_F hs3)
  · have h0 : σ.t.fr.1 = 4 := h0
    rw [if_neg (by omega), if_neg (by omega), B123_1, h0]
    unfold Tn.fe at hci
    rw [if_neg (show ¬ σ.t.fr.1 = 0 from by omega)] at hci
    exact OC.tr ((OC.no _ (show CI σ μ3 from hci) (by decide) (by decide)).bi (fun _ _ => by rw [B123_2])) (FL_F hs3)
