/-! ===== steps, by the reference ===== -/
def S83 (c i : Nat) : Bool := Nat.beq c 83 || (Nat.beq c 71 && Nat.beq i 25)
theorem S83_e {c i : Nat} (h : S83 c i = true) : c = 83 ∨ (c = 71 ∧ i = 25) := by
  unfold S83 at h
  rw [Bool.or_eq_true, Bool.and_eq_true] at h
  rcases h with h | ⟨h1, h2⟩
  · exact Or.inl (Nat.eq_of_beq_eq_true h)
  · exact Or.inr ⟨Nat.eq_of_beq_eq_true h1, Nat.eq_of_beq_eq_true h2⟩
theorem S83_Sc {μ μ' : amM} (h : same S83 μ μ') : same (or2 h0 ScM) μ μ' := h.wide (fun c i q => by
  have q := or2_r q
  cases e : S83 c i with
  | false => rfl
  | true =>
    rcases S83_e e with rfl | ⟨rfl, rfl⟩ <;> cases q)
theorem S83_F {μ μ' : amM} (h : same S83 μ μ') : same FM μ μ' := h.wide (fun c i q => by
  cases e : S83 c i with
  | false => rfl
  | true =>
    rcases S83_e e with rfl | ⟨rfl, rfl⟩ <;> cases q)
theorem near_in (d : Nat) {P : List (Nat × Nat)} (hP : P.length ≤ 128) {lot : Nat} : ∀ (n x : Nat) (Q : List Nat) (μ : amM), x + n = P.length → Q.length + (oth (P.drop x) lot).length ≤ 5 → PF P μ → LSt 83 Q μ → μ 71 25 = (Q.length : Nat) → ∃ μ', At cr2 d 212 1 [] [71, (lot : Int), (x : Int), 0] μ = some (0, μ') ∧ LSt 83 (Q ++ oth (P.drop x) lot) μ' ∧ μ' 71 25 = ((Q ++ oth (P.drop x) lot).length : Nat) ∧ same S83 μ μ'
  | 0, x, Q, μ, hx, hb, hp, hq, hc => by
    rw [B212_1, hp.1, if_neg (by omega), B212_6, List.drop_of_length_le (by omega)]
    rw [show oth [] lot = [] from rfl, List.append_nil]
    exact ⟨μ, rfl, hq, hc, same.rf⟩
  | n + 1, x, Q, μ, hx, hb, hp, hq, hc => by
    have hd := drop_getD (0, 0) (show x < P.length by omega)
    have e := hp.2 x (by omega)
    rw [hd, oth_cons] at hb ⊢
    have add : ∀ o : Nat, Q.length + (oth (P.drop (x + 1)) lot).length + 1 ≤ 5 → ∃ μ', At cr2 d 212 4 [(o : Int)] [71, (lot : Int), (x : Int), 0] μ = some (0, μ') ∧ LSt 83 (Q ++ o :: oth (P.drop (x + 1)) lot) μ' ∧ μ' 71 25 = ((Q ++ o :: oth (P.drop (x + 1)) lot).length : Nat) ∧ same S83 μ μ' := fun o ho => by
      have s1 : same S83 μ (up (up μ 83 Q.length (o : Int)) 71 25 ((Q.length + 1 : Nat) : Int)) := (same.rf.up rfl).up rfl
      obtain ⟨μ', g1, g2, g3, g4⟩ := near_in d hP (lot := lot) n (x + 1) (Q ++ [o]) (up (up μ 83 Q.length (o : Int)) 71 25 ((Q.length + 1 : Nat) : Int)) (by omega) (by
        rw [List.length_append]
        show Q.length + 1 + _ ≤ 5
        omega) (hp.keep s1 rfl (fun _ => rfl) (fun _ => rfl)) (fun i hi => (up_ne _ _ _ _ (Or.inl (by decide))).trans (hq.more o i hi)) (by rw [up_eq, List.length_append]; rfl)
      rw [List.append_assoc] at g2 g3
      refine ⟨μ', ?_, g2, g3, s1.tn g4⟩
      rw [B212_4, if_neg (by omega), hc, wr_p (by omega) (by omega), Int.toNat_natCast, up_ne _ _ _ _ (Or.inl (by decide)), hc, wf_e, w32_i (by omega) (by omega), B212_5, w32_i (by omega) (by omega)]
      exact g1
    rw [B212_1, hp.1, if_pos (by omega), rd_p (by omega) (by omega), Int.toNat_natCast, e.1]
    by_cases q1 : (P.getD x (0, 0)).1 = lot
    · rw [if_pos q1] at hb ⊢
      rw [if_pos (by omega), rd_p (by omega) (by omega), Int.toNat_natCast, e.2]
      refine add _ ?_
      rw [List.length_cons] at hb
      omega
    · rw [if_neg q1] at hb ⊢
      rw [if_neg (by omega), B212_2, rd_p (by omega) (by omega), Int.toNat_natCast, e.2]
      by_cases q2 : (P.getD x (0, 0)).2 = lot
      · rw [if_pos q2] at hb ⊢
        rw [if_pos (by omega), rd_p (by omega) (by omega), Int.toNat_natCast, e.1]
        refine add _ ?_
        rw [List.length_cons] at hb
        omega
      · rw [if_neg q2] at hb ⊢
        rw [if_neg (by omega), B212_3, B212_4, if_pos (by decide), B212_5, w32_i (by omega) (by omega)]
        exact near_in d hP n (x + 1) Q μ (by omega) hb hp hq hc
/-- the change of a mark, and what it was -/
theorem turn_m {t : Tn} {μ : amM} (ok : t.Ok) (h : TM 72 t μ) {l k : Nat} (hl : l < t.lots) (ne : t.kind l ≠ -1) (hk : k < 4) {s : Int} (hs : 0 ≤ s ∧ s < 4) : TM 72 (t.turn l k s) (up μ 72 (148 + 4 * l + k) s) ∧ up (up μ 72 (148 + 4 * l + k) s) 72 (148 + 4 * l + k) (mk (t.code l) k) = μ := ⟨TM.sets ok h hl ne hk hs, up_back _ (((h.2 l hl).2 ne).2 k hk)⟩
theorem right_turn {t : Tn} (ok : t.Ok) {l : Nat} (hl : l < t.lots) (hb : t.bound l = true) (k : Nat) (s : Int) : ((t.turn l k s).nb l).all (fun o => !(t.turn l k s).wrong l o) = t.may l (ws (t.code l) k s) := right_cod ok hl hb _
theorem law0 {t : Tn} {l k : Nat} {s : Int} : t.lawful l k s 0 = (t.can l k s && t.may l (ws (t.code l) k s)) := by
  unfold Tn.lawful
  rw [show ((0 : Int) == 0) = true from rfl, Bool.true_or, Bool.and_true]
theorem wish_m (d : Nat) {t : Tn} {μ : amM} (ok : t.Ok) (h : TM 72 t μ) (hp : PF t.prs μ) {l k : Nat} (hl : l < t.lots) (hk : k < 4) {s : Int} (hs : 0 ≤ s ∧ s < 4) : RD cr2 (d + 5) 214 [71, (l : Int), (k : Int), s] μ = some (bi (t.lawful l k s 0), μ) := by
  rw [M214, mCan_e _ ok h hl hk, bnd_s, law0]
  cases q : t.can l k s with
  | false => rw [if_pos (by rfl)]; rfl
  | true =>
    have hc := can_5 q
    obtain ⟨t1, t2⟩ := turn_m ok h hl hc.2.1 hk hs
    have okt := turn_ok ok hl hc.2.1 hk hs
    rw [if_neg (by decide), B214_1, mMark_e _ ok h hl hk hc.2.1, bnd_s, sets_e _ ok hl hk, bnd_s, mRight_e d okt t1 (hp.u _ _) hl, bnd_s, sets_e _ ok hl hk, bnd_s, t2, rb_bi, right_turn ok hl hc.1]
    rfl
/-- nearby changes, one behind the other: by one number each -/
def Qx (NL : List Nat) (t : Tn) (r : Tn → Bool) (x : Nat) : Bool := t.lawful (NL.getD (x / 12) 0) (x % 12 / 3) ((x % 3 : Nat) : Int) 0 && r (t.turn (NL.getD (x / 12) 0) (x % 12 / 3) ((x % 3 : Nat) : Int))
theorem Qx_rc {NL : List Nat} {lot k : Nat} {s : Int} (m : Nat) (t : Tn) : anyF (Qx NL t (rc NL lot k s m)) (12 * NL.length) 0 = rc NL lot k s (m + 1) t := by
  rw [Bool.eq_iff_iff, anyF_iff]
  show _ ↔ NL.any _ = true
  rw [List.any_eq_true]
  constructor
  · rintro ⟨y, -, h2, h3⟩
    refine ⟨NL.getD (y / 12) 0, getD_mem 0 (by omega), (anyF_iff _ _).mpr ⟨y % 12, by omega, by omega, ?_⟩⟩
    rw [show y % 12 % 3 = y % 3 by omega]
    exact h3
  · rintro ⟨l, h1, h2⟩
    obtain ⟨x, -, h3, h4⟩ := (anyF_iff _ _).mp h2
    obtain ⟨i, hi, e⟩ := List.getElem_of_mem h1
    have eg : NL.getD i 0 = l := by
      rw [List.getD_eq_getElem?_getD, List.getElem?_eq_getElem hi]
      exact e
    refine ⟨12 * i + x, by omega, by omega, ?_⟩
    unfold Qx
    rw [show (12 * i + x) / 12 = i by omega, show (12 * i + x) % 12 = x by omega, show (12 * i + x) % 3 = x % 3 by omega, eg]
    exact h4
def NM (NL : List Nat) (μ : amM) : Prop := LSt 83 NL μ ∧ μ 71 25 = (NL.length : Nat)
theorem NM.u {NL : List Nat} {μ : amM} (h : NM NL μ) (i : Nat) (v : Int) : NM NL (up μ 72 i v) := ⟨fun j hj => (up_ne _ _ _ _ (Or.inl (by decide))).trans (h.1 j hj), (up_ne _ _ _ _ (Or.inl (by decide))).trans h.2⟩
theorem s216 (d : Nat) {NL : List Nat} (hNL : NL.length ≤ 5) {lot k : Nat} (hk : k < 4) {s : Int} (hs : 0 ≤ s ∧ s < 4) {t : Tn} {μ : amM} (ok : t.Ok) (hl : lot < t.lots) (hN : ∀ l ∈ NL, l < t.lots) (h : TM 72 t μ) (hp : PF t.prs μ) (hn : NM NL μ) : ∀ (n x : Nat) (b : Bool), x + n = 12 * NL.length → At cr2 (d + 5) 216 1 [] [71, (lot : Int), (k : Int), s, bi b, (x : Int), 0, 0, 0] μ = some (bi (b || anyF (Qx NL t (rc NL lot k s 0)) n x), μ)
  | 0, x, b, hx => by
    rw [B216_1, hn.2, w32_i (by omega) (by omega), if_neg (by omega), B216_6, rb_bi]
    show _ = some (bi (b || false), μ)
    rw [Bool.or_false]
  | n + 1, x, b, hx => by
    have h64 := ok.le.2
    cases b with
    | true =>
      rw [B216_1, hn.2, w32_i (by omega) (by omega), if_pos (by omega), if_neg (by decide), B216_6, rb_bi]
      rfl
    | false =>
      have hi : x / 12 < NL.length := by omega
      have hll := hN _ (getD_mem 0 hi)
      have t1 : w32 ((x : Int).tdiv 12) = ((x / 12 : Nat) : Int) := by
        rw [show (x : Int).tdiv 12 = ((x / 12 : Nat) : Int) from rfl, w32_i (by omega) (by omega)]
      have t2 : w32 (((x : Int).tmod 12).tdiv 3) = ((x % 12 / 3 : Nat) : Int) := by
        rw [show ((x : Int).tmod 12).tdiv 3 = ((x % 12 / 3 : Nat) : Int) from rfl, w32_i (by omega) (by omega)]
      have t3 : (x : Int).tmod 3 = ((x % 3 : Nat) : Int) := rfl
      have hs3 : (0 : Int) ≤ ((x % 3 : Nat) : Int) ∧ ((x % 3 : Nat) : Int) < 4 := by omega
      have ih : ∀ b', b' = Qx NL t (rc NL lot k s 0) x → At cr2 (d + 5) 216 5 [] [71, (lot : Int), (k : Int), s, bi b', (x : Int), 0, 0, 0] μ = some (bi (false || anyF (Qx NL t (rc NL lot k s 0)) (n + 1) x), μ) := fun b' hb => by
        rw [B216_5, w32_i (by omega) (by omega)]
        refine (s216 d hNL hk hs ok hl hN h hp hn n (x + 1) b' (by omega)).trans ?_
        rw [hb]; rfl
      rw [B216_1, hn.2, w32_i (x := 12 * ((NL.length : Nat) : Int)) (by omega) (by omega), if_pos (by omega), if_pos (by rfl), t1, rd_p (by omega) (by omega), Int.toNat_natCast, hn.1 _ hi, t2, t3, mCan_e _ ok h hll (show x % 12 / 3 < 4 by omega), bnd_s]
      cases q : t.can (NL.getD (x / 12) 0) (x % 12 / 3) ((x % 3 : Nat) : Int) with
      | false =>
        rw [if_pos (by rfl)]
        exact ih false (by
          unfold Qx
          rw [law0, q]; rfl)
      | true =>
        have hc := can_5 q
        have hk3 : x % 12 / 3 < 4 := by omega
        obtain ⟨m1, m2⟩ := turn_m ok h hll hc.2.1 hk3 hs3
        have okt := turn_ok ok hll hc.2.1 hk3 hs3
        have mr : RD cr2 (d + 5) 179 [71, ((NL.getD (x / 12) 0 : Nat) : Int)] (up μ 72 (148 + 4 * (NL.getD (x / 12) 0) + x % 12 / 3) ((x % 3 : Nat) : Int)) = _ := mRight_e (d + 1) okt m1 (hp.u _ _) hll
        have wm := wish_m d okt m1 (hp.u _ _) (l := lot) hl hk hs
        have bk : ∀ b', At cr2 (d + 5) 216 4 [bi b'] [71, (lot : Int), (k : Int), s, 0, (x : Int), ((NL.getD (x / 12) 0 : Nat) : Int), ((x % 12 / 3 : Nat) : Int), mk (t.code (NL.getD (x / 12) 0)) (x % 12 / 3)] (up μ 72 (148 + 4 * (NL.getD (x / 12) 0) + x % 12 / 3) ((x % 3 : Nat) : Int)) = At cr2 (d + 5) 216 5 [] [71, (lot : Int), (k : Int), s, bi b', (x : Int), 0, 0, 0] μ := fun b' => by
          rw [B216_4, sets_e _ ok hll hk3, bnd_s, m2]
        rw [if_neg (by decide), B216_2, mMark_e _ ok h hll hk3 hc.2.1, bnd_s, t3, sets_e _ ok hll hk3, bnd_s, mr, bnd_s, right_turn ok hll hc.1]
        cases q2 : t.may (NL.getD (x / 12) 0) (ws (t.code (NL.getD (x / 12) 0)) (x % 12 / 3) ((x % 3 : Nat) : Int)) with
        | false =>
          rw [if_pos (by rfl), B216_3]
          refine (bk false).trans (ih false ?_)
          unfold Qx
          rw [law0, q, q2]; rfl
        | true =>
          rw [if_neg (by decide), wm, bnd_s]
          cases q3 : (t.turn (NL.getD (x / 12) 0) (x % 12 / 3) ((x % 3 : Nat) : Int)).lawful lot k s 0 with
          | false =>
            rw [if_pos (by rfl), B216_3]
            refine (bk false).trans (ih false ?_)
            unfold Qx rc
            rw [q3, Bool.and_false]
          | true =>
            rw [if_neg (by decide)]
            refine (bk true).trans (ih true ?_)
            unfold Qx rc
            rw [q3, law0, q, q2]; rfl

theorem x12 {x : Nat} (hx : x < 60) : x % 12 / 3 < 4 ∧ w32 ((x : Int).tdiv 12) = ((x / 12 : Nat) : Int) ∧ w32 (((x : Int).tmod 12).tdiv 3) = ((x % 12 / 3 : Nat) : Int) ∧ w32 ((x : Int) + 1) = ((x + 1 : Nat) : Int) ∧ ((0 : Int) ≤ ((x % 3 : Nat) : Int) ∧ ((x % 3 : Nat) : Int) < 4) := by
  refine ⟨by omega, ?_, ?_, w32_i (by omega) (by omega), by omega⟩
  · rw [show (x : Int).tdiv 12 = ((x / 12 : Nat) : Int) from rfl, w32_i (by omega) (by omega)]
  · rw [show ((x : Int).tmod 12).tdiv 3 = ((x % 12 / 3 : Nat) : Int) from rfl, w32_i (by omega) (by omega)]
theorem n12 {n : Nat} (h : n ≤ 5) : w32 (12 * (n : Int)) = ((12 * n : Nat) : Int) := by
  rw [w32_i (by omega) (by omega)]; omega
theorem s215 (d : Nat) {NL : List Nat} (hNL : NL.length ≤ 5) {lot k : Nat} (hk : k < 4) {s : Int} (hs : 0 ≤ s ∧ s < 4) {m : Nat} (hm : m < 2) {t : Tn} {μ : amM} (ok : t.Ok) (hl : lot < t.lots) (hN : ∀ l ∈ NL, l < t.lots) (h : TM 72 t μ) (hp : PF t.prs μ) (hn : NM NL μ) : ∀ (n x : Nat) (b : Bool), x + n = 12 * NL.length → At cr2 (d + 6) 215 2 [] [71, ((m + 1 : Nat) : Int), (lot : Int), (k : Int), s, bi b, (x : Int), 0, 0, 0] μ = some (bi (b || anyF (Qx NL t (rc NL lot k s m)) n x), μ)
  | 0, x, b, hx => by
    rw [B215_2, hn.2, n12 hNL, if_neg (by omega), B215_8, rb_bi]
    show _ = some (bi (b || false), μ)
    rw [Bool.or_false]
  | n + 1, x, b, hx => by
    have h64 := ok.le.2
    cases b with
    | true =>
      rw [B215_2, hn.2, n12 hNL, if_pos (by omega), if_neg (by decide), B215_8, rb_bi]
      rfl
    | false =>
      have hi : x / 12 < NL.length := by omega
      have hll := hN _ (getD_mem 0 hi)
      have a1 : (x : Int) < ((12 * NL.length : Nat) : Int) := by omega
      have a2 : (0 : Int) ≤ ((x / 12 : Nat) : Int) := Int.natCast_nonneg _
      have a3 : ((x / 12 : Nat) : Int) < ((5 : Nat) : Int) := by omega
      have hn1 : x + 1 + n = 12 * NL.length := by omega
      obtain ⟨hk3, t1, t2, t4, hs3⟩ := x12 (show x < 60 by omega)
      have t3 : (x : Int).tmod 3 = ((x % 3 : Nat) : Int) := rfl
      have ih : ∀ b', b' = Qx NL t (rc NL lot k s m) x → At cr2 (d + 6) 215 7 [] [71, ((m + 1 : Nat) : Int), (lot : Int), (k : Int), s, bi b', (x : Int), 0, 0, 0] μ = some (bi (false || anyF (Qx NL t (rc NL lot k s m)) (n + 1) x), μ) := fun b' hb => by
        rw [B215_7, t4]
        refine (s215 d hNL hk hs hm ok hl hN h hp hn n (x + 1) b' hn1).trans ?_
        rw [hb]; rfl
      rw [B215_2, hn.2, n12 hNL, if_pos a1, if_pos (by rfl), t1, rd_p a2 a3, Int.toNat_natCast, hn.1 _ hi, t2, t3, mCan_e _ ok h hll hk3, bnd_s]
      cases q : t.can (NL.getD (x / 12) 0) (x % 12 / 3) ((x % 3 : Nat) : Int) with
      | false =>
        rw [if_pos (by rfl)]
        exact ih false (by
          unfold Qx
          rw [law0, q]; rfl)
      | true =>
        have hc := can_5 q
        obtain ⟨m1, m2⟩ := turn_m ok h hll hc.2.1 hk3 hs3
        have okt := turn_ok ok hll hc.2.1 hk3 hs3
        have mr : RD cr2 (d + 6) 179 [71, ((NL.getD (x / 12) 0 : Nat) : Int)] (up μ 72 (148 + 4 * (NL.getD (x / 12) 0) + x % 12 / 3) ((x % 3 : Nat) : Int)) = _ := mRight_e (d + 2) okt m1 (hp.u _ _) hll
        have bk : ∀ b', At cr2 (d + 6) 215 6 [] [71, ((m + 1 : Nat) : Int), (lot : Int), (k : Int), s, bi b', (x : Int), ((NL.getD (x / 12) 0 : Nat) : Int), ((x % 12 / 3 : Nat) : Int), mk (t.code (NL.getD (x / 12) 0)) (x % 12 / 3)] (up μ 72 (148 + 4 * (NL.getD (x / 12) 0) + x % 12 / 3) ((x % 3 : Nat) : Int)) = At cr2 (d + 6) 215 7 [] [71, ((m + 1 : Nat) : Int), (lot : Int), (k : Int), s, bi b', (x : Int), 0, 0, 0] μ := fun b' => by
          rw [B215_6, sets_e _ ok hll hk3, bnd_s, m2]
        rw [if_neg (by decide), B215_3, mMark_e _ ok h hll hk3 hc.2.1, bnd_s, t3, sets_e _ ok hll hk3, bnd_s, mr, bnd_s, right_turn ok hll hc.1]
        cases q2 : t.may (NL.getD (x / 12) 0) (ws (t.code (NL.getD (x / 12) 0)) (x % 12 / 3) ((x % 3 : Nat) : Int)) with
        | false =>
          rw [if_pos (by rfl)]
          refine (bk false).trans (ih false ?_)
          unfold Qx
          rw [law0, q, q2]; rfl
        | true =>
          have eq : rc NL lot k s m (t.turn (NL.getD (x / 12) 0) (x % 12 / 3) ((x % 3 : Nat) : Int)) = Qx NL t (rc NL lot k s m) x := by
            unfold Qx
            rw [law0, q, q2]; rfl
          rw [if_neg (by decide)]
          match m, hm with
          | 0, _ =>
            have wm := wish_m (d + 1) okt m1 (hp.u _ _) (l := lot) hl hk hs
            rw [if_pos (by decide), wm, bnd_s, B215_5]
            exact (bk _).trans (ih _ eq)
          | 1, _ =>
            have w6 := s216 d hNL hk hs okt hl hN m1 (hp.u _ _) (hn.u _ _) (12 * NL.length) 0 false (by omega)
            rw [Bool.false_or, Qx_rc] at w6
            have w7 : RD cr2 (d + 6) 216 [71, (lot : Int), (k : Int), s] (up μ 72 (148 + 4 * (NL.getD (x / 12) 0) + x % 12 / 3) ((x % 3 : Nat) : Int)) = _ := (M216 (d + 5) _ _ _ _).trans w6
            rw [if_neg (by decide), B215_4, w7, bnd_s, B215_5]
            exact (bk _).trans (ih _ eq)
theorem steps_m (d : Nat) {σ : St} {μ : amM} (ok : σ.Ok) (h : MI σ μ) (x k s : Int) : OM μ (RD cr2 (d + 20) 217 [71, x, k, s] μ) (stepsS σ x k s) := by
  have no1 : OM μ (At cr2 (d + 19) 217 1 [] [71, 0, 0, 0, 0] μ) (σ.no 1) := by
    rw [B217_1]
    exact (OM.no _ ok h (by decide) (by decide)).bi (fun _ _ => rfl)
  unfold stepsS
  rw [M217, mLot_e _ ok h, bnd_s, ifb]
  refine OM.cd (fun hl => ?_) (fun _ => no1)
  rw [mSort_e, bnd_s, ifb]
  refine OM.cd (fun hm => ?_) (fun _ => no1)
  obtain ⟨n, rfl, hn⟩ := isLot_n hl
  obtain ⟨a, b, rfl, rfl, ha, hb⟩ := isMS_n hm
  rw [B217_2, mEmpty_e _ ok.t h.tm hn, bnd_s, Int.toNat_natCast, Int.toNat_natCast, ifb]
  refine OM.cd (fun _ => (OM.no _ ok h (by decide) (by decide)).bi (fun _ _ => rfl)) (fun hk => ?_)
  have ne : σ.t.kind n ≠ -1 := fun e => by rw [e] at hk; cases hk
  obtain ⟨μ1, a1, a2, a3⟩ := findPairs_e (d + 17) ok.t h.tm
  have h1 : MI σ μ1 := h.set0 ok (SP_Sc a3)
  obtain ⟨μ2, b1, b2, b3⟩ := isAllRight_e (d + 14) ok.t h1.tm a2
  have h2 : MI σ μ2 := h1.set0 ok (S71w_Sc b3)
  have p2 : PF σ.t.prs μ2 := a2.s b3 rfl (fun _ => rfl) (fun _ => rfl)
  rw [B217_3]
  refine OM.bs a1 (OM.tr ?_ (SP_F a3))
  refine OM.bs b1 (OM.tr ?_ (S71w_F b3))
  by_cases q : 0 < (σ.t.wl.length : Int)
  · rw [if_pos q, if_pos (by rw [beq_false_of_ne (by omega)]; rfl)]
    exact (OM.no _ ok h2 (by decide) (by decide)).bi (fun _ _ => rfl)
  · rw [if_neg q, show σ.t.wl.length = 0 by omega, if_neg (by decide), B217_4, mMark_e _ ok.t h2.tm hn ha ne, bnd_s]
    unfold St.stp
    by_cases q1 : mk (σ.t.code n) a = (b : Int)
    · rw [if_pos q1, if_pos q1]
      exact OM.rt h2
    · have hnb := ok.t.nbs hn
      have hpm := ok.t.oth hn
      have s0 : same S83 μ2 (up (up μ2 83 0 (n : Int)) 71 25 1) := (same.rf.up rfl).up rfl
      obtain ⟨μ3, c1, c2, c3, c4⟩ := near_in (d + 18) (P := σ.t.prs) ok.t.prs (lot := n) σ.t.prs.length 0 [n] _ (by omega) (by
        show 1 + (oth σ.t.prs n).length ≤ 5
        rw [hpm.length_eq]
        omega) (p2.keep s0 rfl (fun _ => rfl) (fun _ => rfl)) (fun i hi => by
        have : i = 0 := by
          have : ([n] : List Nat).length = 1 := rfl
          omega
        rw [this]; rfl) rfl
      have hs3 := s0.tn c4
      have h3 : MI σ μ3 := h2.set0 ok (S83_Sc hs3)
      have p3 : PF σ.t.prs μ3 := p2.keep hs3 rfl (fun _ => rfl) (fun _ => rfl)
      have e212 : RD cr2 (d + 19) 212 [71, (n : Int)] μ2 = some (0, μ3) := by
        rw [M212, wf_e, wf_e]
        exact c1
      have nm : NM (n :: oth σ.t.prs n) μ3 := ⟨c2, c3⟩
      have hlen : (n :: oth σ.t.prs n).length ≤ 5 := by
        rw [List.length_cons, hpm.length_eq]
        omega
      have hN : ∀ l ∈ (n :: oth σ.t.prs n), l < σ.t.lots := fun l hm => by
        rcases List.mem_cons.mp hm with e | e
        · rw [e]; exact hn
        · exact (hnb.2 l (hpm.mem_iff.mp e)).1
      have hbb : (0 : Int) ≤ (b : Int) ∧ (b : Int) < 4 := by omega
      have r0 : RD cr2 (d + 19) 215 [71, 0, (n : Int), (a : Int), (b : Int)] μ3 = some (bi (rc (n :: σ.t.nb n) n a b 0 σ.t), μ3) := by
        have w := wish_m (d + 13) ok.t h3.tm p3 hn ha hbb
        rw [M215, if_pos rfl, w, bnd_s, rb_bi]
        rfl
      have r12 : ∀ m, m < 2 → RD cr2 (d + 19) 215 [71, ((m + 1 : Nat) : Int), (n : Int), (a : Int), (b : Int)] μ3 = some (bi (rc (n :: σ.t.nb n) n a b (m + 1) σ.t), μ3) := fun m hm => by
        have w := s215 (d + 12) hlen ha hbb hm ok.t hn hN h3.tm p3 nm (12 * (n :: oth σ.t.prs n).length) 0 false (by omega)
        rw [Bool.false_or, Qx_rc, rc_perm (hpm.cons n)] at w
        rw [M215, if_neg (by omega), B215_1]
        exact w
      have r1 : RD cr2 (d + 19) 215 [71, 1, (n : Int), (a : Int), (b : Int)] μ3 = _ := r12 0 (by decide)
      have r2 : RD cr2 (d + 19) 215 [71, 2, (n : Int), (a : Int), (b : Int)] μ3 = _ := r12 1 (by decide)
      rw [if_neg q1, if_neg q1, B217_5, e212, bnd_s, B217_6, if_pos (by decide), r0, bnd_s]
      refine OM.tr ?_ (S83_F hs3)
      cases rc (n :: σ.t.nb n) n a b 0 σ.t with
      | true => exact OM.rt h3
      | false =>
        rw [if_pos (by rfl), B217_7, show w32 (0 + 1) = 1 from by decide, B217_6, if_pos (by decide), r1, bnd_s, cond_false]
        cases rc (n :: σ.t.nb n) n a b (0 + 1) σ.t with
        | true => exact OM.rt h3
        | false =>
          rw [if_pos (by rfl), B217_7, show w32 (1 + 1) = 2 from by decide, B217_6, if_pos (by decide), r2, bnd_s, cond_false]
          cases rc (n :: σ.t.nb n) n a b (1 + 1) σ.t with
          | true => exact OM.rt h3
          | false =>
            rw [if_pos (by rfl), B217_7, show w32 (2 + 1) = 3 from by decide, B217_6, if_neg (by decide), B217_8, cond_false]
            exact (OM.no _ ok h3 (by decide) (by decide)).bi (fun _ _ => rfl)
