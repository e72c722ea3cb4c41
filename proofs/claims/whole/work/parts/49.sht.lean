/-! ===== sheet, put, move ===== -/
def sheetS (σ : St) (s b n : Int) : Int × St := bif isSh s then (bif isB b then (if b ≠ 0 ∧ n < 0 then σ.no 3 else if b ≠ 0 ∧ 64 < n then σ.no 1 else (1, σ.setK s.toNat b (if b = 0 then 0 else n.toNat) (fun _ => 0))) else σ.no 1) else σ.no 1
def putS (σ : St) (s i v : Int) : Int × St := bif isSh s then (bif σ.sb s.toNat == 0 then σ.no 2 else (bif (decide (0 ≤ i) && decide (i ≤ (σ.ss s.toNat : Int) - 1)) then (1, σ.setK s.toNat (σ.sb s.toNat) (σ.ss s.toNat) (fset (σ.sn s.toNat) i.toNat (trn (σ.sb s.toNat) v))) else σ.no 1)) else σ.no 1
def hasB (z : Nat) (i n : Int) : Bool := decide (0 ≤ i ∧ 0 ≤ n ∧ n ≤ (z : Int) ∧ i ≤ (z : Int) - n)
def moveS (σ : St) (s i o j n : Int) : Int × St := bif isSh s then (bif isSh o then (bif σ.sb s.toNat == 0 then σ.no 2 else (bif σ.sb o.toNat == 0 then σ.no 2 else (bif σ.sb s.toNat == σ.sb o.toNat then (bif (hasB (σ.ss s.toNat) i n && hasB (σ.ss o.toNat) j n) then (n, σ.setK o.toNat (σ.sb o.toNat) (σ.ss o.toNat) (fun x => if j.toNat ≤ x ∧ x < j.toNat + n.toNat then σ.sn s.toNat (i.toNat + (x - j.toNat)) else σ.sn o.toNat x)) else σ.no 1) else σ.no 5))) else σ.no 1) else σ.no 1
theorem isSh_n {x : Int} (h : isSh x = true) : ∃ n : Nat, x = n ∧ n < 4 := by
  obtain ⟨n, e, h2⟩ := wi_n h
  exact ⟨n, e, by omega⟩
theorem sheet_ok {σ : St} (ok : σ.Ok) (s b n : Int) : (sheetS σ s b n).2.Ok := by
  refine cd_ok (fun _ => cd_ok (fun hb => if_ok (fun _ => ok) (fun q1 => if_ok (fun _ => ok) (fun q2 => ok.setK (isB_or hb) ?_))) (fun _ => ok)) (fun _ => ok)
  by_cases q : b = 0
  · rw [if_pos q]; exact Nat.zero_le _
  · rw [if_neg q]
    have : ¬ 64 < n := fun w => q2 ⟨q, w⟩
    omega
theorem put_ok {σ : St} (ok : σ.Ok) (s i v : Int) : (putS σ s i v).2.Ok := by
  refine cd_ok (fun hs => cd_ok (fun _ => ok) (fun _ => cd_ok (fun _ => ?_) (fun _ => ok))) (fun _ => ok)
  obtain ⟨k, rfl, hk⟩ := isSh_n hs
  rw [Int.toNat_natCast]
  exact ok.setK (ok.2.2.1 k hk).1 (ok.2.2.1 k hk).2
theorem move_ok {σ : St} (ok : σ.Ok) (s i o j n : Int) : (moveS σ s i o j n).2.Ok := by
  refine cd_ok (fun _ => cd_ok (fun hs => cd_ok (fun _ => ok) (fun _ => cd_ok (fun _ => ok) (fun _ => cd_ok (fun _ => cd_ok (fun _ => ?_) (fun _ => ok)) (fun _ => ok)))) (fun _ => ok)) (fun _ => ok)
  obtain ⟨k, rfl, hk⟩ := isSh_n hs
  rw [Int.toNat_natCast]
  exact ok.setK (ok.2.2.1 k hk).1 (ok.2.2.1 k hk).2
theorem begin_loop (d : Nat) {k : Nat} (hk : k < 4) {z : Nat} (hz : z ≤ 64) (ν : amM) : ∀ (n i : Nat) (μ : amM), i + n = z → same (gK k) ν μ → same FC ν μ → (∀ j, j < i → μ (64 + 2 * k) j = 0) → μ (63 + 2 * k) 1 = ν (63 + 2 * k) 1 → μ (63 + 2 * k) 2 = ν (63 + 2 * k) 2 → ∃ μ', At cr2 d 36 1 [] [((63 + 2 * k : Nat) : Int), 0, (z : Int), (i : Int)] μ = some (0, μ') ∧ same (gK k) ν μ' ∧ same FC ν μ' ∧ (∀ j, j < z → μ' (64 + 2 * k) j = 0) ∧ μ' (63 + 2 * k) 1 = ν (63 + 2 * k) 1 ∧ μ' (63 + 2 * k) 2 = ν (63 + 2 * k) 2
  | 0, i, μ, hi, h1, h2, h3, h4, h5 => by
    have hi : i = z := by omega
    subst hi
    rw [B36_1, if_neg (by omega), B36_2]
    exact ⟨μ, rfl, h1, h2, h3, h4, h5⟩
  | n + 1, i, μ, hi, h1, h2, h3, h4, h5 => by
    rw [B36_1, if_pos (by omega), shN hk, shW hk (by omega) (by omega), w32_i (by omega) (by omega), Int.toNat_natCast]
    refine begin_loop d hk hz ν n (i + 1) _ (by omega) (up_sK h1 _ _) (up_sF hk h2 _ _) (fun j hj => ?_) ?_ ?_
    · rw [up_if]
      by_cases e : j = i
      · rw [if_pos e]
      · rw [if_neg e]; exact h3 j (by omega)
    · rw [up_ne _ _ _ _ (Or.inl (by omega))]; exact h4
    · rw [up_ne _ _ _ _ (Or.inl (by omega))]; exact h5
theorem begin_e (d : Nat) {k : Nat} (hk : k < 4) (b : Int) {z : Nat} (hz : z ≤ 64) (μ : amM) : ∃ μ', RD cr2 (d + 1) 36 [((63 + 2 * k : Nat) : Int), b, (z : Int)] μ = some (0, μ') ∧ same (gK k) μ μ' ∧ same FC μ μ' ∧ (∀ j, j < z → μ' (64 + 2 * k) j = 0) ∧ μ' (63 + 2 * k) 1 = b ∧ μ' (63 + 2 * k) 2 = z := by
  have s1 : same (gK k) μ (up (up μ (63 + 2 * k) 1 b) (63 + 2 * k) 2 (z : Int)) := up_sK1 (up_sK1 same.rf _ _) _ _
  have s2 : same FC μ (up (up μ (63 + 2 * k) 1 b) (63 + 2 * k) 2 (z : Int)) := up_sF1 hk (up_sF1 hk same.rf (by decide) _) (by decide) _
  obtain ⟨μ', g1, g2, g3, g4, g5, g6⟩ := begin_loop d hk hz (up (up μ (63 + 2 * k) 1 b) (63 + 2 * k) 2 (z : Int)) z 0 _ (Nat.zero_add _) same.rf same.rf (fun j hj => absurd hj (Nat.not_lt_zero j)) rfl rfl
  refine ⟨μ', ?_, s1.tr g2, s2.tr g3, g4, ?_, ?_⟩
  · rw [M36, shPb hk, shPs hk]
    exact g1
  · rw [g5, up_ne _ _ _ _ (Or.inr (by decide)), up_eq]
  · rw [g6, up_eq]
theorem sheet_c (d : Nat) {σ : St} {μ : amM} (h : CI σ μ) (s b n : Int) : OC μ (RD cr2 (d + 20) 130 [0, s, b, n] μ) (sheetS σ s b n) := by
  have no1 : OC μ (At cr2 (d + 19) 130 1 [] [0, 0, 0, 0] μ) (σ.no 1) := by
    rw [B130_1]
    exact (OC.no _ h (by decide) (by decide)).bi (fun _ _ => rfl)
  unfold sheetS
  rw [M130, isSheet_e, bnd_s, ifb]
  refine OC.cd (fun hs => ?_) (fun _ => no1)
  obtain ⟨k, rfl, hk⟩ := isSh_n hs
  have six : ∀ z : Nat, z ≤ 64 → OC μ (At cr2 (d + 19) 130 6 [(z : Int), b, ((63 + 2 * k : Nat) : Int)] [0, 0, 0, 0] μ) (1, σ.setK k b z (fun _ => 0)) := fun z hz => by
    obtain ⟨μ', g1, g2, g3, g4, g5, g6⟩ := begin_e (d + 18) hk b hz μ
    rw [B130_6, if_pos (shT hk), g1, bnd_s]
    exact ⟨μ', rfl, h.setK hk g2 g5 g6 g4, g3⟩
  have two : OC μ (At cr2 (d + 19) 130 2 [] [0, (k : Int), b, n] μ) (if b ≠ 0 ∧ n < 0 then σ.no 3 else if b ≠ 0 ∧ 64 < n then σ.no 1 else (1, σ.setK (k : Int).toNat b (if b = 0 then 0 else n.toNat) (fun _ => 0))) := by
    rw [B130_2, Int.toNat_natCast]
    by_cases q : b = 0
    · rw [if_pos q, if_neg (fun w => w.1 q), if_neg (fun w => w.1 q), if_pos q, B130_3, if_pos q, B130_4, shQ hk, if_pos q]
      exact six 0 (by decide)
    · rw [if_neg q, if_neg q]
      by_cases q1 : n < 0
      · rw [if_pos q1, if_pos ⟨q, q1⟩]
        exact (OC.no _ h (by decide) (by decide)).bi (fun _ _ => rfl)
      · rw [if_neg q1, if_neg (fun w => q1 w.2), B130_3, if_neg q]
        by_cases q2 : 64 < n
        · rw [if_pos q2, if_pos ⟨q, q2⟩]
          exact (OC.no _ h (by decide) (by decide)).bi (fun _ _ => rfl)
        · rw [if_neg q2, if_neg (fun w => q2 w.2), B130_4, shQ hk, if_neg q, B130_5]
          have e := six n.toNat (by omega)
          rw [Int.toNat_of_nonneg (by omega)] at e
          exact e
  cases hb : isB b with
  | true =>
    rw [cond_true]
    rcases isB_or hb with q | q | q | q
    · rw [if_pos q]; exact two
    · rw [if_neg (by omega), if_pos q]; exact two
    · rw [if_neg (by omega), if_neg (by omega), if_pos q]; exact two
    · rw [if_neg (by omega), if_neg (by omega), if_neg (by omega), if_pos q]; exact two
  | false =>
    rw [cond_false]
    unfold isB at hb
    rw [Bool.or_eq_false_iff, Bool.or_eq_false_iff, Bool.or_eq_false_iff, beq_eq_false_iff_ne, beq_eq_false_iff_ne, beq_eq_false_iff_ne, beq_eq_false_iff_ne] at hb
    rw [if_neg hb.1.1.1, if_neg hb.1.1.2, if_neg hb.1.2, if_neg hb.2]
    exact no1
theorem put_c (d : Nat) {σ : St} {μ : amM} (ok : σ.Ok) (h : CI σ μ) (s i : Int) {v : Int} (hv : i32 v) : OC μ (RD cr2 (d + 20) 131 [0, s, i, v] μ) (putS σ s i v) := by
  unfold putS
  rw [M131, isSheet_e, bnd_s, ifb]
  refine OC.cd (fun hs => ?_) (fun _ => (OC.no _ h (by decide) (by decide)).bi (fun _ _ => rfl))
  obtain ⟨k, rfl, hk⟩ := isSh_n hs
  have hp := h.2.2.2.2.1 k hk
  have ho := ok.2.2.1 k hk
  rw [B131_1, shQ hk, if_pos (shT hk), shMiss_e _ hk, bnd_s, ifb, Int.toNat_natCast, hp.1]
  refine OC.cd (fun _ => (OC.no _ h (by decide) (by decide)).bi (fun _ _ => rfl)) (fun hb => ?_)
  rw [B131_2, shQ hk, shS hk, hp.2.1, w32_i (by omega) (by omega), isWithin_e, bnd_s, ifb]
  refine OC.cd (fun hi => ?_) (fun _ => (OC.no _ h (by decide) (by decide)).bi (fun _ _ => rfl))
  obtain ⟨a, rfl, ha⟩ := wi_n hi
  have hb3 : μ (63 + 2 * k) 1 = 8 ∨ μ (63 + 2 * k) 1 = 16 ∨ μ (63 + 2 * k) 1 = 32 := by
    rw [hp.1]
    rcases ho.1 with q | q
    · rw [q] at hb; cases hb
    · exact q
  rw [B131_3, shQ hk, if_pos (shT hk), shSet_e _ hk (by omega) (by omega) hb3 hv, bnd_s, Int.toNat_natCast, hp.1]
  refine ⟨_, rfl, h.setK hk (up_sK same.rf _ _) ?_ ?_ (fun j hj => ?_), up_sF hk same.rf _ _⟩
  · rw [up_ne _ _ _ _ (Or.inl (by omega))]; exact hp.1
  · rw [up_ne _ _ _ _ (Or.inl (by omega))]; exact hp.2.1
  · rw [up_if]
    unfold fset
    by_cases e : j = a
    · rw [if_pos e, if_pos e]
    · rw [if_neg e, if_neg e]; exact hp.2.2 j hj
theorem has_e (d : Nat) {k : Nat} (hk : k < 4) {z : Nat} (hz : z ≤ 64) {μ : amM} (h : μ (63 + 2 * k) 2 = z) {i n : Int} (hn : i32 n) : RD cr2 (d + 1) 38 [((63 + 2 * k : Nat) : Int), i, n] μ = some (bi (hasB z i n), μ) := by
  have nay : ¬ (0 ≤ i ∧ 0 ≤ n ∧ n ≤ (z : Int) ∧ i ≤ (z : Int) - n) → At cr2 d 38 1 [] [0, 0, 0] μ = some (bi (hasB z i n), μ) := fun q => by
    unfold hasB
    rw [B38_1, B38_2, decide_eq_false q]; rfl
  rw [M38]
  by_cases q1 : i < 0
  · rw [if_pos q1]
    exact nay (by omega)
  · by_cases q2 : n < 0
    · rw [if_neg q1, if_pos q2]
      exact nay (by omega)
    · rw [if_neg q1, if_neg q2, shS hk, h]
      by_cases q3 : (z : Int) < n
      · rw [if_pos q3]
        exact nay (by omega)
      · rw [if_neg q3, shS hk, h, w32_i (by omega) (by omega)]
        by_cases q4 : (z : Int) - n < i
        · rw [if_pos q4]
          exact nay (by omega)
        · rw [if_neg q4, B38_2]
          unfold hasB
          rw [decide_eq_true (by omega)]; rfl
theorem move_c (d : Nat) {σ : St} {μ : amM} (ok : σ.Ok) (h : CI σ μ) (s i o j : Int) {n : Int} (hn : i32 n) : OC μ (RD cr2 (d + 20) 132 [0, s, i, o, j, n] μ) (moveS σ s i o j n) := by
  have no1 : OC μ (At cr2 (d + 19) 132 1 [] [0, 0, 0, 0, 0, 0, 0, 0] μ) (σ.no 1) := by
    rw [B132_1]
    exact (OC.no _ h (by decide) (by decide)).bi (fun _ _ => rfl)
  have no6 : OC μ (At cr2 (d + 19) 132 6 [] [0, 0, 0, 0, 0, 0, 0, 0] μ) (σ.no 1) := by
    rw [B132_6]
    exact (OC.no _ h (by decide) (by decide)).bi (fun _ _ => rfl)
  have no2 : OC μ (At cr2 (d + 19) 132 3 [] [0, 0, 0, 0, 0, 0, 0, 0] μ) (σ.no 2) := by
    rw [B132_3]
    exact (OC.no _ h (by decide) (by decide)).bi (fun _ _ => rfl)
  unfold moveS
  rw [M132, isSheet_e, bnd_s, ifb]
  refine OC.cd (fun hs => ?_) (fun _ => no1)
  obtain ⟨k, rfl, hk⟩ := isSh_n hs
  rw [isSheet_e, bnd_s, ifb]
  refine OC.cd (fun hs2 => ?_) (fun _ => no1)
  obtain ⟨l, rfl, hl⟩ := isSh_n hs2
  have hp := h.2.2.2.2.1 k hk
  have hp2 := h.2.2.2.2.1 l hl
  have ho := ok.2.2.1 k hk
  have ho2 := ok.2.2.1 l hl
  rw [B132_2, shQ hk, shQ hl, if_pos (shT hk), shMiss_e _ hk, bnd_s, ifb, Int.toNat_natCast, Int.toNat_natCast, hp.1]
  refine OC.cd (fun _ => no2) (fun hb => ?_)
  rw [if_pos (shT hl), shMiss_e _ hl, bnd_s, ifb, hp2.1]
  refine OC.cd (fun _ => no2) (fun hb2 => ?_)
  rw [B132_4, shB hk, shB hl, hp.1, hp2.1]
  by_cases q : σ.sb k = σ.sb l
  · rw [if_pos q, q, beq_self_eq_true, cond_true, B132_5, if_pos (shT hk), has_e _ hk ho.2 hp.2.1 hn, bnd_s]
    cases q1 : hasB (σ.ss k) i n with
    | false =>
      rw [if_pos (show bi false = 0 from rfl)]
      exact no6
    | true =>
      rw [if_neg (show ¬ bi true = 0 from by decide), if_pos (shT hl), has_e _ hl ho2.2 hp2.2.1 hn, bnd_s]
      cases q2 : hasB (σ.ss l) j n with
      | false =>
        rw [if_pos (show bi false = 0 from rfl)]
        exact no6
      | true =>
        have r1 := of_decide_eq_true (show decide (0 ≤ i ∧ 0 ≤ n ∧ n ≤ ((σ.ss k : Nat) : Int) ∧ i ≤ ((σ.ss k : Nat) : Int) - n) = true from q1)
        have r2 := of_decide_eq_true (show decide (0 ≤ j ∧ 0 ≤ n ∧ n ≤ ((σ.ss l : Nat) : Int) ∧ j ≤ ((σ.ss l : Nat) : Int) - n) = true from q2)
        rw [if_neg (show ¬ bi true = 0 from by decide), B132_7, shN hk, shN hl, cpy_p ⟨(shT2 hk).1, (shT2 hl).1⟩ (by rw [(shT2 hk).2, (shT2 hl).2]; omega), Int.toNat_natCast, Int.toNat_natCast]
        have sK : ∀ g, same (gK l) μ (upr μ (64 + 2 * l) g) := fun g => same.rf.upr (fun _ => by unfold gK; rw [Nat.beq_refl (64 + 2 * l), Bool.or_true])
        have sF : ∀ g, same FC μ (upr μ (64 + 2 * l) g) := fun g => same.rf.upr (fun i => by unfold FC; rw [shC2 hl i, ble_t (show 64 + 2 * l ≤ 70 by omega)]; rfl)
        refine ⟨_, rfl, h.setK hl (sK _) ?_ ?_ (fun x hx => ?_), sF _⟩
        · rw [upr_ne _ _ _ (by omega)]; exact hp2.1
        · rw [upr_ne _ _ _ (by omega)]; exact hp2.2.1
        · rw [upr_eq]
          by_cases e : j.toNat ≤ x ∧ x < j.toNat + n.toNat
          · rw [if_pos e, if_pos e]
            exact hp.2.2 _ (by omega)
          · rw [if_neg e, if_neg e]
            exact hp2.2.2 x hx
  · rw [if_neg q, beq_false_of_ne q, cond_false]
    exact (OC.no _ h (by decide) (by decide)).bi (fun _ _ => rfl)
/-! the reference -/
theorem zero_loop (d : Nat) {k : Nat} (hk : k < 4) (ν : amM) : ∀ (n i : Nat) (μ : amM), i + n = 64 → same (hK k) ν μ → (∀ j, j < i → μ 93 (64 * k + j) = 0) → μ 91 k = ν 91 k → μ 92 k = ν 92 k → ∃ μ', At cr2 d 250 7 [] [71, (k : Int), 0, 0, (i : Int)] μ = some (1, μ') ∧ same (hK k) ν μ' ∧ (∀ j, j < 64 → μ' 93 (64 * k + j) = 0) ∧ μ' 91 k = ν 91 k ∧ μ' 92 k = ν 92 k
  | 0, i, μ, hi, h1, h3, h4, h5 => by
    have hi : i = 64 := by omega
    subst hi
    rw [B250_7, if_neg (by omega), B250_8]
    exact ⟨μ, rfl, h1, h3, h4, h5⟩
  | n + 1, i, μ, hi, h1, h3, h4, h5 => by
    rw [B250_7, if_pos (by omega), w32_i (x := 64 * (k : Int)) (by omega) (by omega), w32_i (x := 64 * (k : Int) + i) (by omega) (by omega), wr_p (by omega) (by omega), w32_i (by omega) (by omega), show (64 * (k : Int) + i).toNat = 64 * k + i by omega]
    refine zero_loop d hk ν n (i + 1) _ (by omega) (h1.up (hK_3 (by omega) (by omega))) (fun j hj => ?_) h4 h5
    rw [up_if]
    by_cases e : j = i
    · rw [if_pos (by omega)]
    · rw [if_neg (by omega)]; exact h3 j (by omega)
theorem sheet_m (d : Nat) {σ : St} {μ : amM} (ok : σ.Ok) (h : MI σ μ) (s b n : Int) : OM μ (RD cr2 (d + 20) 250 [71, s, b, n] μ) (sheetS σ s b n) := by
  have no1 : OM μ (At cr2 (d + 19) 250 1 [] [71, 0, 0, 0, 0] μ) (σ.no 1) := by
    rw [B250_1]
    exact (OM.no _ ok h (by decide) (by decide)).bi (fun _ _ => rfl)
  unfold sheetS
  rw [M250, mSheet_e, bnd_s, ifb]
  refine OM.cd (fun hs => ?_) (fun _ => no1)
  obtain ⟨k, rfl, hk⟩ := isSh_n hs
  have six : ∀ z : Nat, OM μ (At cr2 (d + 19) 250 6 [(z : Int), (k : Int), 92] [71, (k : Int), 0, 0, 0] (up μ 91 k b)) (1, σ.setK k b z (fun _ => 0)) ∨ 64 < z := fun z => by
    by_cases hz : 64 < z
    · exact Or.inr hz
    · have s1 : same (hK k) μ (up (up μ 91 k b) 92 k (z : Int)) := (same.rf.up (hK_1 k)).up (hK_2 k)
      obtain ⟨μ', g1, g2, g3, g4, g5⟩ := zero_loop (d + 19) hk (up (up μ 91 k b) 92 k (z : Int)) 64 0 _ rfl same.rf (fun j hj => absurd hj (Nat.not_lt_zero j)) rfl rfl
      refine Or.inl ?_
      rw [B250_6, wr_p (by omega) (by omega), Int.toNat_natCast]
      refine ⟨μ', g1, h.setK ok (s1.tr g2) ?_ ?_ (fun i hi => g3 i (by omega)), hK_F (s1.tr g2)⟩
      · rw [g4, up_ne _ _ _ _ (Or.inl (by decide)), up_eq]
      · rw [g5, up_eq]
  have two : OM μ (At cr2 (d + 19) 250 2 [] [71, (k : Int), b, n, 0] μ) (if b ≠ 0 ∧ n < 0 then σ.no 3 else if b ≠ 0 ∧ 64 < n then σ.no 1 else (1, σ.setK (k : Int).toNat b (if b = 0 then 0 else n.toNat) (fun _ => 0))) := by
    rw [B250_2, Int.toNat_natCast]
    by_cases q : b = 0
    · rw [if_pos q, if_neg (fun w => w.1 q), if_neg (fun w => w.1 q), if_pos q, B250_3, if_pos q, B250_4, wr_p (by omega) (by omega), if_pos q, Int.toNat_natCast]
      exact (six 0).resolve_right (by decide)
    · rw [if_neg q, if_neg q]
      by_cases q1 : n < 0
      · rw [if_pos q1, if_pos ⟨q, q1⟩]
        exact (OM.no _ ok h (by decide) (by decide)).bi (fun _ _ => rfl)
      · rw [if_neg q1, if_neg (fun w => q1 w.2), B250_3, if_neg q]
        by_cases q2 : 64 < n
        · rw [if_pos q2, if_pos ⟨q, q2⟩]
          exact (OM.no _ ok h (by decide) (by decide)).bi (fun _ _ => rfl)
        · rw [if_neg q2, if_neg (fun w => q2 w.2), B250_4, wr_p (by omega) (by omega), if_neg q, B250_5, Int.toNat_natCast]
          have e := (six n.toNat).resolve_right (by omega)
          rw [Int.toNat_of_nonneg (by omega)] at e
          exact e
  cases hb : isB b with
  | true =>
    rw [cond_true]
    rcases isB_or hb with q | q | q | q
    · rw [if_pos q]; exact two
    · rw [if_neg (by omega), if_pos q]; exact two
    · rw [if_neg (by omega), if_neg (by omega), if_pos q]; exact two
    · rw [if_neg (by omega), if_neg (by omega), if_neg (by omega), if_pos q]; exact two
  | false =>
    rw [cond_false]
    unfold isB at hb
    rw [Bool.or_eq_false_iff, Bool.or_eq_false_iff, Bool.or_eq_false_iff, beq_eq_false_iff_ne, beq_eq_false_iff_ne, beq_eq_false_iff_ne, beq_eq_false_iff_ne] at hb
    rw [if_neg hb.1.1.1, if_neg hb.1.1.2, if_neg hb.1.2, if_neg hb.2]
    exact no1
theorem put_m (d : Nat) {σ : St} {μ : amM} (ok : σ.Ok) (h : MI σ μ) (s i v : Int) : OM μ (RD cr2 (d + 20) 251 [71, s, i, v] μ) (putS σ s i v) := by
  unfold putS
  rw [M251, mSheet_e, bnd_s, ifb]
  refine OM.cd (fun hs => ?_) (fun _ => (OM.no _ ok h (by decide) (by decide)).bi (fun _ _ => rfl))
  obtain ⟨k, rfl, hk⟩ := isSh_n hs
  have hp := h.2.2.2.2.1 k hk
  have ho := ok.2.2.1 k hk
  rw [B251_1, rd_p (by omega) (by omega), Int.toNat_natCast, hp.1]
  by_cases q : σ.sb k = 0
  · rw [if_pos q, q, show ((0 : Int) == 0) = true from rfl, cond_true]
    exact (OM.no _ ok h (by decide) (by decide)).bi (fun _ _ => rfl)
  · rw [if_neg q, beq_false_of_ne q, cond_false, B251_2, rd_p (by omega) (by omega), Int.toNat_natCast, hp.2.1, w32_i (by omega) (by omega), in_e, bnd_s, ifb]
    refine OM.cd (fun hi => ?_) (fun _ => (OM.no _ ok h (by decide) (by decide)).bi (fun _ _ => rfl))
    obtain ⟨a, rfl, ha⟩ := wi_n hi
    have fin : OM μ (At cr2 (d + 19) 251 6 [trn (σ.sb k) v, 64 * (k : Int) + a, 93] [0, 0, 0, 0] μ) (1, σ.setK k (σ.sb k) (σ.ss k) (fset (σ.sn k) a (trn (σ.sb k) v))) := by
      rw [B251_6, wr_p (by omega) (by omega), show (64 * (k : Int) + a).toNat = 64 * k + a by omega]
      have s1 : same (hK k) μ (up μ 93 (64 * k + a) (trn (σ.sb k) v)) := same.rf.up (hK_3 (by omega) (by omega))
      refine ⟨_, rfl, h.setK ok s1 hp.1 hp.2.1 (fun j hj => ?_), hK_F s1⟩
      rw [up_if]
      unfold fset
      by_cases e : j = a
      · rw [if_pos (by omega), if_pos e]
      · rw [if_neg (by omega), if_neg e]; exact hp.2.2 j hj
    rw [B251_3, rd_p (by omega) (by omega), Int.toNat_natCast, Int.toNat_natCast, hp.1, w32_i (x := 64 * (k : Int)) (by omega) (by omega), w32_i (by omega) (by omega)]
    unfold trn at fin ⊢
    by_cases q8 : σ.sb k = 8
    · rw [if_pos q8] at fin ⊢
      rw [if_pos q8]
      exact fin
    · rw [if_neg q8] at fin ⊢
      rw [if_neg q8, B251_4, rd_p (by omega) (by omega), Int.toNat_natCast, hp.1]
      by_cases q16 : σ.sb k = 16
      · rw [if_pos q16] at fin ⊢
        rw [if_pos q16]
        exact fin
      · rw [if_neg q16] at fin ⊢
        rw [if_neg q16, B251_5]
        exact fin
theorem lift_loop (d : Nat) {k : Nat} (hk : k < 4) {a n : Nat} (hz : a + n ≤ 64) (x3 x4 : Int) (ν : amM) : ∀ (m i : Nat) (μ : amM), i + m = n → same (fun c _ => Nat.beq c 94) ν μ → (∀ j, j < i → μ 94 j = ν 93 (64 * k + a + j)) → ∃ μ', At cr2 d 252 8 [] [71, (k : Int), (a : Int), x3, x4, (n : Int), (i : Int)] μ = At cr2 d 252 9 [] [71, 0, 0, x3, x4, (n : Int), 0] μ' ∧ same (fun c _ => Nat.beq c 94) ν μ' ∧ ∀ j, j < n → μ' 94 j = ν 93 (64 * k + a + j)
  | 0, i, μ, hi, hs, hq => by
    have hi : i = n := by omega
    subst hi
    rw [B252_8, if_neg (by omega)]
    exact ⟨μ, rfl, hs, hq⟩
  | m + 1, i, μ, hi, hs, hq => by
    rw [B252_8, if_pos (by omega), w32_i (x := 64 * (k : Int)) (by omega) (by omega), w32_i (x := 64 * (k : Int) + a) (by omega) (by omega), w32_i (x := 64 * (k : Int) + a + i) (by omega) (by omega), rd_p (by omega) (by omega), wr_p (by omega) (by omega), w32_i (by omega) (by omega), show (64 * (k : Int) + a + i).toNat = 64 * k + a + i by omega, Int.toNat_natCast]
    refine lift_loop d hk hz x3 x4 ν m (i + 1) _ (by omega) (hs.up rfl) (fun j hj => ?_)
    rw [up_if]
    by_cases e : j = i
    · rw [if_pos e, e]; exact hs _ _ rfl
    · rw [if_neg e]; exact hq j (by omega)
theorem drop_loop (d : Nat) {k : Nat} (hk : k < 4) {a n : Nat} (hz : a + n ≤ 64) (ν : amM) : ∀ (m i : Nat) (μ : amM), i + m = n → same (hK k) ν μ → (∀ j, μ 94 j = ν 94 j) → μ 91 k = ν 91 k → μ 92 k = ν 92 k → (∀ x, x < 64 → μ 93 (64 * k + x) = if a ≤ x ∧ x < a + i then ν 94 (x - a) else ν 93 (64 * k + x)) → ∃ μ', At cr2 d 252 10 [] [71, 0, 0, (k : Int), (a : Int), (n : Int), (i : Int)] μ = some ((n : Int), μ') ∧ same (hK k) ν μ' ∧ μ' 91 k = ν 91 k ∧ μ' 92 k = ν 92 k ∧ (∀ x, x < 64 → μ' 93 (64 * k + x) = if a ≤ x ∧ x < a + n then ν 94 (x - a) else ν 93 (64 * k + x))
  | 0, i, μ, hi, hs, h94, h4, h5, hq => by
    have hi : i = n := by omega
    subst hi
    rw [B252_10, if_neg (by omega), B252_11]
    exact ⟨μ, rfl, hs, h4, h5, hq⟩
  | m + 1, i, μ, hi, hs, h94, h4, h5, hq => by
    rw [B252_10, if_pos (by omega), rd_p (by omega) (by omega), w32_i (x := 64 * (k : Int)) (by omega) (by omega), w32_i (x := 64 * (k : Int) + a) (by omega) (by omega), w32_i (x := 64 * (k : Int) + a + i) (by omega) (by omega), wr_p (by omega) (by omega), w32_i (by omega) (by omega), show (64 * (k : Int) + a + i).toNat = 64 * k + a + i by omega, Int.toNat_natCast]
    refine drop_loop d hk hz ν m (i + 1) _ (by omega) (hs.up (hK_3 (by omega) (by omega))) (fun j => h94 j) h4 h5 (fun x hx => ?_)
    rw [up_if]
    by_cases e : x = a + i
    · rw [if_pos (by omega), if_pos (by omega), h94, show x - a = i by omega]
    · rw [if_neg (by omega), hq x hx]
      by_cases e2 : a ≤ x ∧ x < a + i
      · rw [if_pos e2, if_pos (by omega)]
      · rw [if_neg e2, if_neg (by omega)]
theorem S94_Sc {μ μ' : amM} (h : same (fun c _ => Nat.beq c 94) μ μ') : same (or2 h0 ScM) μ μ' := by
  refine h.wide (fun c i q => ?_)
  have q := or2_r q
  cases e : Nat.beq c 94 with
  | false => rfl
  | true => rw [Nat.eq_of_beq_eq_true e] at q; cases q
theorem S94_F {μ μ' : amM} (h : same (fun c _ => Nat.beq c 94) μ μ') : same FM μ μ' := by
  refine h.wide (fun c i q => ?_)
  cases e : Nat.beq c 94 with
  | false => rfl
  | true => rw [Nat.eq_of_beq_eq_true e] at q; cases q
theorem move_m (d : Nat) {σ : St} {μ : amM} (ok : σ.Ok) (h : MI σ μ) (s : Int) {i : Int} (o : Int) {j n : Int} (hi : i32 i) (hj : i32 j) (hn : i32 n) : OM μ (RD cr2 (d + 20) 252 [71, s, i, o, j, n] μ) (moveS σ s i o j n) := by
  have no1 : OM μ (At cr2 (d + 19) 252 1 [] [71, 0, 0, 0, 0, 0, 0] μ) (σ.no 1) := by
    rw [B252_1]
    exact (OM.no _ ok h (by decide) (by decide)).bi (fun _ _ => rfl)
  have no6 : OM μ (At cr2 (d + 19) 252 6 [] [71, 0, 0, 0, 0, 0, 0] μ) (σ.no 1) := by
    rw [B252_6]
    exact (OM.no _ ok h (by decide) (by decide)).bi (fun _ _ => rfl)
  have no2 : OM μ (At cr2 (d + 19) 252 3 [] [71, 0, 0, 0, 0, 0, 0] μ) (σ.no 2) := by
    rw [B252_3]
    exact (OM.no _ ok h (by decide) (by decide)).bi (fun _ _ => rfl)
  unfold moveS
  rw [M252, mSheet_e, bnd_s, ifb]
  refine OM.cd (fun hs => ?_) (fun _ => no1)
  obtain ⟨k, rfl, hk⟩ := isSh_n hs
  rw [mSheet_e, bnd_s, ifb]
  refine OM.cd (fun hs2 => ?_) (fun _ => no1)
  obtain ⟨l, rfl, hl⟩ := isSh_n hs2
  have hp := h.2.2.2.2.1 k hk
  have hp2 := h.2.2.2.2.1 l hl
  have ho := ok.2.2.1 k hk
  have ho2 := ok.2.2.1 l hl
  unfold i32 at hi hj hn
  rw [B252_2, rd_p (by omega) (by omega), Int.toNat_natCast, hp.1, Int.toNat_natCast]
  by_cases z1 : σ.sb k = 0
  · rw [if_pos z1, z1, show ((0 : Int) == 0) = true from rfl, cond_true]; exact no2
  rw [if_neg z1, rd_p (by omega) (by omega), Int.toNat_natCast, hp2.1, beq_false_of_ne z1, cond_false]
  by_cases z2 : σ.sb l = 0
  · rw [if_pos z2, z2, show ((0 : Int) == 0) = true from rfl, cond_true]; exact no2
  rw [if_neg z2, beq_false_of_ne z2, cond_false, B252_4, rd_p (by omega) (by omega), rd_p (by omega) (by omega), Int.toNat_natCast, Int.toNat_natCast, hp.1, hp2.1]
  by_cases q : σ.sb k = σ.sb l
  · rw [if_pos q, q, beq_self_eq_true, cond_true, B252_5]
    have nay : ¬ ((0 ≤ i ∧ 0 ≤ n ∧ n ≤ ((σ.ss k : Nat) : Int) ∧ i ≤ ((σ.ss k : Nat) : Int) - n) ∧ (0 ≤ j ∧ 0 ≤ n ∧ n ≤ ((σ.ss l : Nat) : Int) ∧ j ≤ ((σ.ss l : Nat) : Int) - n)) → (hasB (σ.ss k) i n && hasB (σ.ss l) j n) = false := fun w => by
      unfold hasB
      rw [← Bool.decide_and, decide_eq_false w]
    by_cases r1 : n < 0
    · rw [if_pos r1, nay (by omega)]; exact no6
    by_cases r2 : i < 0
    · rw [if_neg r1, if_pos r2, nay (by omega)]; exact no6
    by_cases r3 : j < 0
    · rw [if_neg r1, if_neg r2, if_pos r3, nay (by omega)]; exact no6
    rw [if_neg r1, if_neg r2, if_neg r3, rd_p (by omega) (by omega), Int.toNat_natCast, hp.2.1, w32_i (x := ((σ.ss k : Nat) : Int) - i) (by omega) (by omega)]
    by_cases r4 : ((σ.ss k : Nat) : Int) - i < n
    · rw [if_pos r4, nay (by omega)]; exact no6
    rw [if_neg r4, rd_p (by omega) (by omega), Int.toNat_natCast, hp2.2.1, w32_i (by omega) (by omega)]
    by_cases r5 : ((σ.ss l : Nat) : Int) - j < n
    · rw [if_pos r5, nay (by omega)]; exact no6
    have yes : (hasB (σ.ss k) i n && hasB (σ.ss l) j n) = true := by
      unfold hasB
      rw [← Bool.decide_and, decide_eq_true (by omega)]
    rw [if_neg r5, yes, cond_true, B252_7]
    obtain ⟨a, rfl⟩ := Int.eq_ofNat_of_zero_le (show 0 ≤ i by omega)
    obtain ⟨b, rfl⟩ := Int.eq_ofNat_of_zero_le (show 0 ≤ j by omega)
    obtain ⟨m, rfl⟩ := Int.eq_ofNat_of_zero_le (show 0 ≤ n by omega)
    obtain ⟨μ1, g1, g2, g3⟩ := lift_loop (d + 19) hk (a := a) (n := m) (by omega) (l : Int) (b : Int) μ m 0 μ (Nat.zero_add _) same.rf (fun j hj => absurd hj (Nat.not_lt_zero j))
    have h1 := h.set0 ok (S94_Sc g2)
    obtain ⟨μ2, f1, f2, f3, f4, f5⟩ := drop_loop (d + 19) hl (a := b) (n := m) (by omega) μ1 m 0 μ1 (Nat.zero_add _) same.rf (fun _ => rfl) rfl rfl (fun x hx => by rw [if_neg (by omega)])
    have E : At cr2 (d + 19) 252 8 [] [71, (k : Int), (a : Int), (l : Int), (b : Int), (m : Int), 0] μ = some ((m : Int), μ2) := by
      refine g1.trans ?_
      rw [B252_9]
      exact f1
    have hp1 := h1.2.2.2.2.1 k hk
    have hp21 := h1.2.2.2.2.1 l hl
    rw [E, Int.toNat_natCast, Int.toNat_natCast, Int.toNat_natCast]
    refine ⟨μ2, rfl, h1.setK ok f2 (f3.trans hp21.1) (f4.trans hp21.2.1) (fun x hx => ?_), (S94_F g2).tr (hK_F f2)⟩
    rw [f5 x (by omega)]
    by_cases e : b ≤ x ∧ x < b + m
    · rw [if_pos e, if_pos e, g3 _ (by omega), show 64 * k + a + (x - b) = 64 * k + (a + (x - b)) by omega]
      exact hp.2.2 _ (by omega)
    · rw [if_neg e, if_neg e]
      exact hp21.2.2 x hx
  · rw [if_neg q, beq_false_of_ne q, cond_false]
    exact (OM.no _ ok h (by decide) (by decide)).bi (fun _ _ => rfl)
