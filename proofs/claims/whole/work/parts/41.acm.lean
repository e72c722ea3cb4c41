/-! ===== the reference does them ===== -/
def hLw (c i : Nat) : Bool := Nat.beq c 72 && (Nat.beq i 3 || Nat.beq i 4)
theorem hLw_f {i : Nat} (h : 5 ≤ i) : hLw 72 i = false := by
  unfold hLw
  rw [beq_f (show i ≠ 3 by omega), beq_f (show i ≠ 4 by omega)]; rfl
theorem TM.law {t : Tn} {μ μ' : amM} (h : TM 72 t μ) (hs : same hLw μ μ') {a b : Int} (h1 : μ' 72 3 = a) (h2 : μ' 72 4 = b) : TM 72 (t.law a b) μ' := by
  obtain ⟨⟨a1, a2, a3, a4, a5⟩, b1⟩ := h
  refine ⟨⟨(hs _ _ rfl).trans a1, (hs _ _ rfl).trans a2, (hs _ _ rfl).trans a3, h1, h2⟩, fun l hl => ?_⟩
  rw [hs _ _ (hLw_f (by omega)), hs _ _ (hLw_f (by omega))]
  refine ⟨(b1 l hl).1, fun hn => ⟨((b1 l hl).2 hn).1, fun k hk => ?_⟩⟩
  rw [hs _ _ (hLw_f (by omega))]
  exact ((b1 l hl).2 hn).2 k hk
theorem hT_up {μ : amM} {i : Nat} {v : Int} (h : i ≤ 4 ∨ (20 ≤ i ∧ i ≤ 403)) : same (or2 hT ScM) μ (up μ 72 i v) := by
  refine same.rf.up ?_
  show (((true && (Nat.ble i 4 || (Nat.ble 20 i && Nat.ble i 403))) || ScM 72 i) = true)
  rcases h with h | h
  · rw [ble_t h]; rfl
  · rw [ble_t h.1, ble_t h.2, Bool.and_self, Bool.or_true]; rfl
theorem FM_up {μ : amM} {i : Nat} {v : Int} : same FM μ (up μ 72 i v) := same.rf.up rfl
theorem rule_m (d : Nat) {σ : St} {μ : amM} (ok : σ.Ok) (h : MI σ μ) (w v : Int) : OM μ (RD cr2 (d + 20) 188 [71, w, v] μ) (ruleS σ w v) := by
  have no1 : OM μ (At cr2 (d + 19) 188 1 [] [71, 0, 0, 0] μ) (σ.no 1) := by
    rw [B188_1]
    exact (OM.no _ ok h (by decide) (by decide)).bi (fun _ _ => rfl)
  have no3 : OM μ (At cr2 (d + 19) 188 4 [] [71, 0, 0, 0] μ) (σ.no 3) := by
    rw [B188_4]
    exact (OM.no _ ok h (by decide) (by decide)).bi (fun _ _ => rfl)
  have e3 := h.tm.1.2.2.2.1
  have e4 := h.tm.1.2.2.2.2
  unfold ruleS
  rw [M188, in_e, bnd_s, ifb]
  refine OM.cd (fun hw => ?_) (fun _ => no1)
  rw [in_e, bnd_s, ifb]
  refine OM.cd (fun hv => ?_) (fun _ => no1)
  by_cases q : w = 0
  · rw [if_pos q, B188_2, if_pos q, e4]
    by_cases q2 : σ.t.most < v
    · rw [if_pos q2, if_pos q2]; exact no3
    · rw [if_neg q2, if_neg q2, B188_5, q]
      show OM μ (rd 72 576 μ 3 (fun v1 => wr 72 576 μ 3 v (fun μ1 => some (v1, μ1)))) _
      rw [rd_p (by decide) (by decide), wr_p (by decide) (by decide)]
      exact ⟨up μ 72 3 v, by show some (μ 72 3, _) = _; rw [e3]; rfl, h.setT ok (hT_up (Or.inl (by decide))) (h.tm.law (same.rf.up rfl) (up_eq _ _ _ _) e4), FM_up⟩
  · rw [if_neg q, B188_2, if_neg q, B188_3, e3]
    by_cases q2 : v < σ.t.least
    · rw [if_pos q2, if_pos q2]; exact no3
    · have q1 : w = 1 := by
        obtain ⟨b, rfl, hb⟩ := wi_n hw
        omega
      rw [if_neg q2, if_neg q2, B188_5, q1]
      show OM μ (rd 72 576 μ 4 (fun v1 => wr 72 576 μ 4 v (fun μ1 => some (v1, μ1)))) _
      rw [rd_p (by decide) (by decide), wr_p (by decide) (by decide)]
      exact ⟨up μ 72 4 v, by show some (μ 72 4, _) = _; rw [e4]; rfl, h.setT ok (hT_up (Or.inl (by decide))) (h.tm.law (same.rf.up rfl) e3 (up_eq _ _ _ _)), FM_up⟩
theorem mNumber_e (d : Nat) {t : Tn} {μ : amM} (ok : t.Ok) (h : TM 72 t μ) {n : Nat} (hn : n < t.lots) (ne : t.kind n ≠ -1) : RD cr2 (d + 2) 191 [71, (n : Int)] μ = some (numOf (t.code n), μ) := by
  have st : ∀ (k : Nat) (x : Int), k < 4 → 0 ≤ x → x < 1000 → At cr2 (d + 1) 191 1 [] [71, (n : Int), x, (k : Int)] μ = At cr2 (d + 1) 191 1 [] [71, (n : Int), 3 * x + mk (t.code n) k % 3, ((k + 1 : Nat) : Int)] μ := fun k x hk h0 h1 => by
    have q := mk_R (t.code n) k
    rw [B191_1, if_pos (by omega), mMark_e d ok h hn hk ne, bnd_s, Int.tmod_eq_emod_of_nonneg q.1, w32_i (x := 3 * x) (by omega) (by omega), w32_i (x := 3 * x + _) (by omega) (by omega), w32_i (by omega) (by omega)]
    rfl
  have q0 := mk_R (t.code n) 0
  have q1 := mk_R (t.code n) 1
  have q2 := mk_R (t.code n) 2
  have q3 := mk_R (t.code n) 3
  rw [M191]
  refine (st 0 0 (by decide) (by decide) (by decide)).trans ((st 1 _ (by decide) (by omega) (by omega)).trans ((st 2 _ (by decide) (by omega) (by omega)).trans ((st 3 _ (by decide) (by omega) (by omega)).trans ?_)))
  rw [B191_1, if_neg (by decide), B191_2]
  unfold numOf
  congr 2
  omega
theorem pull_m (d : Nat) {σ : St} {μ : amM} (ok : σ.Ok) (h : MI σ μ) (x : Int) : OM μ (RD cr2 (d + 20) 192 [71, x] μ) (pullS σ x) := by
  have h64 := ok.t.le.2
  unfold pullS
  rw [M192, mLot_e _ ok h, bnd_s, ifb]
  refine OM.cd (fun hl => ?_) (fun _ => (OM.no _ ok h (by decide) (by decide)).bi (fun _ _ => rfl))
  obtain ⟨n, rfl, hn⟩ := isLot_n hl
  rw [B192_1, mEmpty_e _ ok.t h.tm hn, bnd_s, ifb, Int.toNat_natCast]
  refine OM.cd (fun _ => (OM.no _ ok h (by decide) (by decide)).bi (fun _ _ => rfl)) (fun he => ?_)
  have ne : σ.t.kind n ≠ -1 := fun q => by rw [q] at he; cases he
  obtain ⟨μ', g1, g2, g3⟩ := empties_e (d + 17) ok.t h.tm hn 0 0
  rw [B192_2, mNumber_e _ ok.t h.tm hn ne, bnd_s, g1, bnd_s]
  exact ⟨μ', rfl, h.setT ok (SM_T (by omega) g3) g2, SM_F g3⟩
theorem become_m (d : Nat) {σ : St} {μ : amM} (ok : σ.Ok) (h : MI σ μ) (x y : Int) : OM μ (RD cr2 (d + 20) 194 [71, x, y] μ) (becomeS σ x y) := by
  have h64 := ok.t.le.2
  have no1 : OM μ (At cr2 (d + 19) 194 1 [] [71, 0, 0, 0] μ) (σ.no 1) := by
    rw [B194_1]
    exact (OM.no _ ok h (by decide) (by decide)).bi (fun _ _ => rfl)
  unfold becomeS
  rw [M194, mLot_e _ ok h, bnd_s, ifb]
  refine OM.cd (fun hl => ?_) (fun _ => no1)
  obtain ⟨n, rfl, hn⟩ := isLot_n hl
  rw [in_e, bnd_s, ifb]
  refine OM.cd (fun hy => ?_) (fun _ => no1)
  rw [B194_2, mEmpty_e _ ok.t h.tm hn, bnd_s, ifb, Int.toNat_natCast]
  refine OM.cd (fun _ => (OM.no _ ok h (by decide) (by decide)).bi (fun _ _ => rfl)) (fun he => ?_)
  have ne : σ.t.kind n ≠ -1 := fun q => by rw [q] at he; cases he
  have q := (h.tm.2 n hn).2 ne
  obtain ⟨b, rfl, hb⟩ := wi_n hy
  rw [B194_3, mKind_e _ ok.t h.tm hn, bnd_s, w32_i (x := 20 + (n : Int)) (by omega) (by omega), w32_i (x := 84 + (n : Int)) (by omega) (by omega), wr_p (by omega) (by omega), wr_p (by omega) (by omega), Int.tdiv_eq_ediv_of_nonneg (by omega), Int.tmod_eq_emod_of_nonneg (by omega), w32_i (x := (b : Int) / 10) (by omega) (by omega), w32_i (by omega) (by omega), show ((20 : Int) + n).toNat = 20 + n by omega, show ((84 : Int) + n).toNat = 84 + n by omega]
  have hs : same (SM n) μ (up (up μ 72 (20 + n) (1 + (b : Int) / 10)) 72 (84 + n) ((b : Int) % 10)) := (same.rf.up (SM_t1 n)).up (SM_t2 n)
  refine ⟨_, rfl, h.setT ok (SM_T (by omega) hs) (h.tm.put ok.t hn hs ?_ (fun _ => ⟨up_eq _ _ _ _, fun k hk => ?_⟩)), SM_F hs⟩
  · rw [up_if, if_neg (by omega), up_eq]
    omega
  · rw [up_if, if_neg (by omega), up_if, if_neg (by omega)]
    exact q.2 k hk
theorem above_e (d : Nat) (μ : amM) {k : Int} (hk : -1 ≤ k ∧ k ≤ 6) : RD cr2 (d + 1) 195 [k] μ = some (abv k, μ) := by
  unfold abv
  rw [M195]
  by_cases q : k < 4
  · rw [if_pos q, if_pos q, B195_2]
  · rw [if_neg q, if_neg q, B195_1, B195_2, w32_i (by omega) (by omega)]
theorem as_m (d : Nat) {σ : St} {μ : amM} (ok : σ.Ok) (h : MI σ μ) (x y : Int) : OM μ (RD cr2 (d + 20) 196 [71, x, y] μ) (asS σ x y) := by
  have h64 := ok.t.le.2
  have no1 : OM μ (At cr2 (d + 19) 196 1 [] [71, 0, 0, 0] μ) (σ.no 1) := by
    rw [B196_1]
    exact (OM.no _ ok h (by decide) (by decide)).bi (fun _ _ => rfl)
  unfold asS
  rw [M196, mLot_e _ ok h, bnd_s, ifb]
  refine OM.cd (fun hl => ?_) (fun _ => no1)
  obtain ⟨n, rfl, hn⟩ := isLot_n hl
  rw [in_e, bnd_s, ifb]
  refine OM.cd (fun hy => ?_) (fun _ => no1)
  rw [B196_2, mEmpty_e _ ok.t h.tm hn, bnd_s, ifb, Int.toNat_natCast]
  refine OM.cd (fun _ => (OM.no _ ok h (by decide) (by decide)).bi (fun _ _ => rfl)) (fun he => ?_)
  have ne : σ.t.kind n ≠ -1 := fun q => by rw [q] at he; cases he
  have q := (h.tm.2 n hn).2 ne
  have hk := (ok.t.2 n hn).1
  have yes : OM μ (At cr2 (d + 19) 196 4 [] [71, (n : Int), 0, 0] μ) (σ.t.m n, σ) := by
    rw [B196_4, w32_i (by omega) (by omega), rd_p (by omega) (by omega), show ((84 : Int) + n).toNat = 84 + n by omega, q.1, B196_6]
    exact OM.rt h
  rw [B196_3, mKind_e _ ok.t h.tm hn, bnd_s]
  by_cases q1 : y = 0
  · rw [if_pos q1, q1]; exact yes
  · rw [if_neg q1, beq_false_of_ne q1]
    by_cases q2 : y = σ.t.kind n
    · rw [if_pos q2, q2, beq_self_eq_true]; exact yes
    · rw [if_neg q2, beq_false_of_ne q2, above_e _ _ hk, bnd_s]
      by_cases q3 : y = abv (σ.t.kind n)
      · rw [if_pos q3, q3, beq_self_eq_true]; exact yes
      · rw [if_neg q3, beq_false_of_ne q3, B196_5]
        exact (OM.no _ ok h (by decide) (by decide)).bi (fun _ _ => by rw [B196_6])
theorem alike_m (d : Nat) {σ : St} {μ : amM} (ok : σ.Ok) (h : MI σ μ) (x y : Int) : OM μ (RD cr2 (d + 20) 200 [71, x, y] μ) (alikeS σ x y) := by
  have no1 : OM μ (At cr2 (d + 19) 200 1 [] [71, 0, 0] μ) (σ.no 1) := by
    rw [B200_1]
    exact (OM.no _ ok h (by decide) (by decide)).bi (fun _ _ => rfl)
  have no2 : OM μ (At cr2 (d + 19) 200 3 [] [71, 0, 0] μ) (σ.no 2) := by
    rw [B200_3]
    exact (OM.no _ ok h (by decide) (by decide)).bi (fun _ _ => by rw [B200_5])
  unfold alikeS
  rw [M200, mLot_e _ ok h, bnd_s, ifb]
  refine OM.cd (fun hl => ?_) (fun _ => no1)
  obtain ⟨n, rfl, hn⟩ := isLot_n hl
  rw [mLot_e _ ok h, bnd_s, ifb]
  refine OM.cd (fun hl2 => ?_) (fun _ => no1)
  obtain ⟨m, rfl, hm⟩ := isLot_n hl2
  rw [B200_2, mEmpty_e _ ok.t h.tm hn, bnd_s, ifb, Int.toNat_natCast, Int.toNat_natCast]
  refine OM.cd (fun _ => no2) (fun he => ?_)
  rw [mEmpty_e _ ok.t h.tm hm, bnd_s, ifb]
  refine OM.cd (fun _ => no2) (fun he2 => ?_)
  have ne : σ.t.kind n ≠ -1 := fun q => by rw [q] at he; cases he
  have ne2 : σ.t.kind m ≠ -1 := fun q => by rw [q] at he2; cases he2
  rw [B200_4, mAlike_e _ ok.t h.tm hn hm ne ne2, bnd_s, B200_5]
  exact OM.rt h
theorem SP_Sc {μ μ' : amM} (h : same SP μ μ') : same (or2 h0 ScM) μ μ' := by
  refine h.wide (fun c i q => ?_)
  have q := or2_r q
  cases e : SP c i with
  | false => rfl
  | true =>
    unfold SP at e
    rw [Bool.or_eq_true, Bool.or_eq_true, Bool.and_eq_true] at e
    rcases e with (e | e) | ⟨e, e2⟩
    · rw [eq_of_beq e] at q; cases q
    · rw [eq_of_beq e] at q; cases q
    · rw [eq_of_beq e, eq_of_beq e2] at q; cases q
theorem SP_F {μ μ' : amM} (h : same SP μ μ') : same FM μ μ' := by
  refine h.wide (fun c i q => ?_)
  cases e : SP c i with
  | false => rfl
  | true =>
    unfold SP at e
    rw [Bool.or_eq_true, Bool.or_eq_true, Bool.and_eq_true] at e
    rcases e with (e | e) | ⟨e, e2⟩
    · rw [eq_of_beq e] at q; cases q
    · rw [eq_of_beq e] at q; cases q
    · rw [eq_of_beq e, eq_of_beq e2] at q; cases q
theorem OM.bs {μ : amM} {r : amR} {f : Int → amM → amR} {s : Int × St} {v : Int} {μ1 : amM} (h : r = some (v, μ1)) (h2 : OM μ (f v μ1) s) : OM μ (bnd r f) s := by
  rw [h]
  exact h2
theorem stand_m (d : Nat) {σ : St} {μ : amM} (ok : σ.Ok) (h : MI σ μ) (hp : PF σ.t.prs μ) {n : Nat} (hn : n < σ.t.lots) {y : Int} (h1 : y < 2147483648) : ∀ (f x : Nat) (i : Int), x + f = 81 → 0 ≤ i → i ≤ x → i ≤ y → At cr2 (d + 19) 204 4 [] [71, (n : Int), y, i, (x : Int)] μ = (if sel (fun h => σ.t.may n (hc h)) (-1) f x (y - i) = -1 then bnd (RD cr2 (d + 19) 150 [71, 2] μ) (fun v1 μ1 => some (v1, μ1)) else some (sel (fun h => σ.t.may n (hc h)) (-1) f x (y - i), μ))
  | 0, x, i, hx, hi, hix, hiy => by
    rw [B204_4, if_neg (by omega), B204_7]
    unfold sel
    rw [if_pos rfl]
  | f + 1, x, i, hx, hi, hix, hiy => by
    have six : ∀ i, 0 ≤ i → i ≤ ((x + 1 : Nat) : Int) → i ≤ y → At cr2 (d + 19) 204 6 [] [71, (n : Int), y, i, (x : Int)] μ = (if sel (fun h => σ.t.may n (hc h)) (-1) f (x + 1) (y - i) = -1 then bnd (RD cr2 (d + 19) 150 [71, 2] μ) (fun v1 μ1 => some (v1, μ1)) else some (sel (fun h => σ.t.may n (hc h)) (-1) f (x + 1) (y - i), μ)) := fun i g1 g2 g3 => by
      rw [B204_6, w32_i (by omega) (by omega)]
      exact stand_m d ok h hp hn h1 f (x + 1) i (by omega) g1 g2 g3
    rw [B204_4, if_pos (by omega), fits_e _ ok.t h.tm hp hn (by omega), bnd_s]
    unfold sel
    cases hb : σ.t.may n (hc (x : Int)) with
    | false =>
      rw [if_pos (show bi false = 0 from rfl)]
      exact six i hi (by omega) hiy
    | true =>
      rw [if_neg (show ¬ bi true = 0 from by decide)]
      by_cases q : i = y
      · have q2 : y - i = 0 := by omega
        have q3 : ¬ ((x : Int) = -1) := by omega
        simp only [if_true, if_pos q, if_pos q2, if_neg q3]
      · have q2 : ¬ (y - i = 0) := by omega
        have s5 := six (i + 1) (by omega) (by omega) (by omega)
        rw [show y - (i + 1) = y - i - 1 by omega] at s5
        simp only [if_true, if_neg q, if_neg q2]
        rw [B204_5, w32_i (by omega) (by omega)]
        exact s5
theorem may_m (d : Nat) {σ : St} {μ : amM} (ok : σ.Ok) (h : MI σ μ) (x : Int) {y : Int} (hy : i32 y) : OM μ (RD cr2 (d + 20) 204 [71, x, y] μ) (mayS σ x y) := by
  have no1 : OM μ (At cr2 (d + 19) 204 1 [] [71, 0, 0, 0, 0] μ) (σ.no 1) := by
    rw [B204_1]
    exact (OM.no _ ok h (by decide) (by decide)).bi (fun _ _ => rfl)
  unfold mayS
  rw [M204, mLot_e _ ok h, bnd_s, ifb]
  refine OM.cd (fun hl => ?_) (fun _ => no1)
  obtain ⟨n, rfl, hn⟩ := isLot_n hl
  rw [Int.toNat_natCast]
  by_cases q1 : y < -1
  · rw [if_pos q1, if_pos q1]; exact no1
  · obtain ⟨μ1, g1, g2, g3⟩ := findPairs_e (d + 17) ok.t h.tm
    have hm := h.set0 ok (SP_Sc g3)
    rw [if_neg q1, if_neg q1, B204_2]
    refine OM.bs g1 (OM.tr ?_ (SP_F g3))
    by_cases q2 : y = -1
    · rw [if_pos (by omega), if_pos q2, mHowMany_e _ ok.t hm.tm g2 hn, bnd_s]
      exact OM.rt hm
    · have e := stand_m d ok hm g2 hn hy.2 81 0 0 (by decide) (by decide) (by decide) (by omega)
      rw [show y - 0 = y by omega] at e
      rw [if_neg (by omega), if_neg q2, B204_3]
      show OM μ1 (At cr2 (d + 19) 204 4 [] [71, (n : Int), y, 0, ((0 : Nat) : Int)] μ1) _
      rw [e, show ((0 : Nat) : Int) = 0 from rfl]
      by_cases q3 : sel (fun h => σ.t.may n (hc h)) (-1) 81 0 y = -1
      · rw [if_pos q3, if_pos q3]
        exact (OM.no _ ok hm (by decide) (by decide)).bi (fun _ _ => rfl)
      · rw [if_neg q3, if_neg q3]
        exact OM.rt hm
theorem told_m (d : Nat) {σ : St} {μ : amM} (ok : σ.Ok) (h : MI σ μ) (x : Int) : OM μ (RD cr2 (d + 20) 264 [71, x] μ) (toldS σ x) := by
  unfold toldS
  rw [M264, in_e, bnd_s, ifb]
  refine OM.cd (fun hl => ?_) (fun _ => ?_)
  · rw [Bool.and_eq_true] at hl
    have h1 := of_decide_eq_true hl.1
    have h2 := of_decide_eq_true hl.2
    rw [rd_p (by omega) (by omega), B264_2, h.2.2.2.1 x.toNat (by omega)]
    exact OM.rt h
  · rw [B264_1]
    exact (OM.no _ ok h (by decide) (by decide)).bi (fun _ _ => by rw [B264_2])
theorem seed_m (d : Nat) {σ : St} {μ : amM} (ok : σ.Ok) (h : MI σ μ) (x : Int) : OM μ (RD cr2 (d + 20) 240 [71, x] μ) (seedS σ x) := by
  have q := h.1.2.2.2.2
  rw [M240]
  rw [wf_e, q.2.2]
  exact ⟨up μ 72 7 x, rfl, h.setY ok (same.rf.up rfl) ⟨q.1, q.2.1, up_eq _ _ _ _⟩, same.rf.up rfl⟩
theorem tell_m (d : Nat) {σ : St} {μ : amM} (ok : σ.Ok) (h : MI σ μ) (x : Int) : OM μ (RD cr2 (d + 20) 261 [71, x] μ) (tellS σ x) := by
  have h20 := ok.1.2.2.1
  have e := h.1.2.2.1.1
  have e2 := h.1.2.2.1.2
  unfold tellS
  rw [M261, e]
  by_cases q : σ.k.nw < 20
  · rw [if_neg (by omega), if_pos q, B261_1, e, w32_i (x := 406 + (σ.k.nw : Int)) (by omega) (by omega), wr_p (by omega) (by omega), show ((406 : Int) + σ.k.nw).toNat = 406 + σ.k.nw by omega]
    have e9 : up μ 72 (406 + σ.k.nw) x 72 9 = (σ.k.nw : Int) := by rw [up_if, if_neg (by omega), e]
    rw [wf_e, e9, w32_i (by omega) (by omega), up_eq]
    have hs : same (or2 hW ScM) μ (up (up μ 72 (406 + σ.k.nw) x) 72 9 ((σ.k.nw : Int) + 1)) := by
      refine (same.rf.up ?_).up rfl
      show ((true && (Nat.beq (406 + σ.k.nw) 9 || (Nat.ble 406 (406 + σ.k.nw) && Nat.ble (406 + σ.k.nw) 425))) || ScM 72 (406 + σ.k.nw)) = true
      rw [ble_t (show 406 ≤ 406 + σ.k.nw by omega), ble_t (show 406 + σ.k.nw ≤ 425 by omega), Bool.and_self, Bool.or_true]; rfl
    refine ⟨_, rfl, h.setW ok hs ⟨up_eq _ _ _ _, fun i hi => ?_⟩, (same.rf.up rfl).up rfl⟩
    rw [up_if, if_neg (by omega), up_if]
    unfold fset
    by_cases q3 : i = σ.k.nw
    · rw [if_pos (by omega), if_pos q3]
    · rw [if_neg (by omega), if_neg q3]
      exact e2 i (by omega)
  · rw [if_pos (by omega), if_neg q]
    exact (OM.no _ ok h (by decide) (by decide)).bi (fun _ _ => rfl)
theorem check_mloop (d : Nat) {σ : St} {μ : amM} (ok : σ.Ok) (ht : TM 72 σ.t μ) (hp : PF σ.t.prs μ) (hl : ∀ x, RD cr2 (d + 19) 154 [71, x] μ = some (bi (σ.t.isLot x), μ)) (hw : ∀ i, i < σ.k.nw → μ 72 (406 + i) = σ.k.wt i) : ∀ n i, i + n = σ.k.nw → At cr2 (d + 19) 262 1 [] [71, (σ.k.nw : Int), (i : Int)] μ = some (chk σ.t σ.k.wt n i, μ)
  | 0, i, hi => by
    rw [B262_1, if_neg (by omega), B262_4]
    rfl
  | n + 1, i, hi => by
    have h20 := ok.1.2.2.1
    have h64 := ok.t.le.2
    have ih := check_mloop d ok ht hp hl hw n (i + 1) (by omega)
    rw [B262_1, if_pos (by omega), hl, bnd_s]
    unfold chk
    by_cases q : i < σ.t.lots
    · have ql : σ.t.isLot i = true := by
        unfold Tn.isLot
        rw [decide_eq_true (by omega), decide_eq_true (by omega)]; rfl
      rw [ql, if_neg (show ¬ bi true = 0 from by decide), w32_i (x := 406 + (i : Int)) (by omega) (by omega), rd_p (by omega) (by omega), show ((406 : Int) + i).toNat = 406 + i by omega, hw i (by omega), mHowMany_e _ ok.t ht hp q, bnd_s]
      by_cases q2 : ((cntB (fun h => σ.t.may i (hc h)) 81 : Nat) : Int) = σ.k.wt i
      · rw [if_pos q2.symm, if_pos ⟨q, q2⟩, B262_3, w32_i (by omega) (by omega)]
        exact ih
      · rw [if_neg (fun w => q2 w.symm), if_neg (fun w => q2 w.2), B262_2, w32_i (by omega) (by omega)]
    · have ql : σ.t.isLot i = false := by
        unfold Tn.isLot
        rw [decide_eq_false (show ¬ (i : Int) ≤ (σ.t.lots : Int) - 1 by omega), Bool.and_false]
      rw [ql, if_pos (show bi false = 0 from rfl), if_neg (fun w => q w.1), B262_2, w32_i (by omega) (by omega)]
theorem check_m (d : Nat) {σ : St} {μ : amM} (ok : σ.Ok) (h : MI σ μ) : OM μ (RD cr2 (d + 20) 262 [71] μ) (checkS σ) := by
  have e := h.1.2.2.1.1
  have e2 := h.1.2.2.1.2
  have ok1 : (checkS σ).2.Ok := check_ok ok
  have h1 : MI (σ.setW 0 σ.k.wt) (up μ 72 9 0) := h.setW ok (same.rf.up rfl) ⟨up_eq _ _ _ _, fun i hi => absurd hi (Nat.not_lt_zero i)⟩
  obtain ⟨μ1, g1, g2, g3⟩ := findPairs_e (d + 17) ok.t h1.tm
  have hm := h1.set0 ok1 (SP_Sc g3)
  rw [M262]
  rw [wf_e, g1, bnd_s, e]
  refine ⟨_, check_mloop d ok hm.tm g2 (fun x => mLot_e _ ok1 hm x) (fun i hi => ?_) _ 0 (Nat.zero_add _), hm, FM_up.tr (SP_F g3)⟩
  rw [g3 _ _ rfl, up_if, if_neg (by omega)]
  exact e2 i hi
theorem trace_m (d : Nat) {σ : St} {μ : amM} (ok : σ.Ok) (h : MI σ μ) (x : Int) : OM μ (RD cr2 (d + 20) 248 [71, x] μ) (traceS σ x) := by
  have h40 := ok.2.2.2
  have q := h.2.2.2.2.2
  unfold traceS
  rw [M248, q.1, w32_i (by omega) (by omega), in_e, bnd_s, ifb]
  refine OM.cd (fun hl => ?_) (fun _ => ?_)
  · obtain ⟨n, rfl, hn⟩ := wi_n hl
    rw [rd_p (by omega) (by omega), B248_2, Int.toNat_natCast, q.2 n (by omega)]
    exact OM.rt h
  · rw [B248_1]
    exact (OM.no _ ok h (by decide) (by decide)).bi (fun _ _ => by rw [B248_2])
theorem mHouses_e (d : Nat) {t : Tn} {μ : amM} (ok : t.Ok) (h : TM 72 t μ) : RD cr2 (d + 2) 184 [71] μ = some ((t.houses : Int), μ) := by
  have lp : ∀ n i, i + n = t.lots → At cr2 (d + 1) 184 1 [] [71, (cntL (fun lot => !(t.kind lot == -1)) i : Int), (i : Int)] μ = some ((t.houses : Int), μ) := by
    intro n
    induction n with
    | zero =>
      intro i hi
      have hi : i = t.lots := by omega
      subst hi
      rw [B184_1, mLots_e d ok h, bnd_s, if_neg (by omega), B184_4]
      rfl
    | succ n ih =>
      intro i hi
      have h64 := ok.le.2
      have hle := cntL_le (fun lot => !(t.kind lot == -1)) i
      have ih := ih (i + 1) (by omega)
      rw [cntL_succ] at ih
      rw [B184_1, mLots_e d ok h, bnd_s, if_pos (by omega), mEmpty_e d ok h (by omega), bnd_s]
      cases hb : t.kind i == -1 with
      | true =>
        rw [if_neg (show ¬ bi true = 0 from by decide), B184_3, w32_i (x := _ + 0) (by omega) (by omega), w32_i (by omega) (by omega)]
        rw [hb] at ih
        exact ih
      | false =>
        rw [if_pos (show bi false = 0 from rfl), B184_2, B184_3, w32_i (x := _ + 1) (by omega) (by omega), w32_i (x := _ + 1) (by omega) (by omega)]
        rw [hb] at ih
        exact ih
  rw [M184]
  exact lp _ 0 (Nat.zero_add _)

theorem count_m (d : Nat) {σ : St} {μ : amM} (ok : σ.Ok) (h : MI σ μ) (x : Int) : OM μ (RD cr2 (d + 20) 263 [71, x] μ) (countS σ x) := by
  unfold countS
  rw [M263]
  by_cases q0 : x = 0
  · rw [if_pos q0, if_pos q0, B263_1]
    exact OM.rv h h.tm.1.1
  rw [if_neg q0, if_neg q0]
  by_cases q1 : x = 1
  · rw [if_pos q1, if_pos q1, B263_2]
    exact OM.rv h h.tm.1.2.1
  rw [if_neg q1, if_neg q1]
  by_cases q2 : x = 2
  · rw [if_pos q2, if_pos q2, B263_3]
    exact OM.rv h h.tm.1.2.2.1
  rw [if_neg q2, if_neg q2]
  by_cases q3 : x = 3
  · rw [if_pos q3, if_pos q3, B263_4]
    exact OM.rv h h.tm.1.2.2.2.1
  rw [if_neg q3, if_neg q3]
  by_cases q4 : x = 4
  · rw [if_pos q4, if_pos q4, B263_5]
    exact OM.rv h h.tm.1.2.2.2.2
  rw [if_neg q4, if_neg q4]
  by_cases q5 : x = 5
  · rw [if_pos q5, if_pos q5, B263_6, mHouses_e _ ok.t h.tm, bnd_s]
    exact OM.rt h
  rw [if_neg q5, if_neg q5]
  by_cases q6 : x = 6
  · rw [if_pos q6, if_pos q6, B263_7]
    exact OM.rv h h.1.2.2.2.2.1
  rw [if_neg q6, if_neg q6]
  by_cases q7 : x = 7
  · rw [if_pos q7, if_pos q7, B263_8]
    exact OM.rv h h.1.2.2.2.2.2.1
  rw [if_neg q7, if_neg q7]
  by_cases q8 : x = 8
  · rw [if_pos q8, if_pos q8, B263_9]
    exact OM.rv h h.1.2.1.1
  rw [if_neg q8, if_neg q8]
  by_cases q9 : x = 9
  · rw [if_pos q9, if_pos q9, B263_10]
    exact OM.rv h h.1.2.2.1.1
  rw [if_neg q9, if_neg q9]
  by_cases q10 : x = 10
  · rw [if_pos q10, if_pos q10, B263_11]
    exact OM.rv h h.2.2.2.2.2.1
  rw [if_neg q10, if_neg q10]
  by_cases q11 : x = 11
  · rw [if_pos q11, if_pos q11, B263_12]
    exact OM.rv h h.1.2.2.2.2.2.2
  rw [if_neg q11, if_neg q11]
  rw [B263_13]
  exact (OM.no _ ok h (by decide) (by decide)).bi (fun _ _ => rfl)
