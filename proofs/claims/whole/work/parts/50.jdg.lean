/-! ===== judge, builds ===== -/
def Tn.told (t : Tn) (l : Nat) (x : Int) : Bool := bif t.kind l == -1 then x == -1 else (blk0 (t.code l) == 0 && numOf (t.code l) == x)
def jdg (t : Tn) (z : Nat) (f : Nat → Int) : Nat → Nat → Int
  | 0, i => if z = t.lots then -1 else (i : Int)
  | n + 1, i => bif t.told i (f i) then jdg t z f n (i + 1) else (i : Int)
def judgeS (σ : St) (s : Int) : Int × St := bif isSh s then (bif σ.sb s.toNat == 0 then σ.no 2 else (jdg σ.t (σ.ss s.toNat) (σ.sn s.toNat) (min (σ.ss s.toNat) σ.t.lots) 0, σ)) else σ.no 1
theorem judge_ok {σ : St} (ok : σ.Ok) (s : Int) : (judgeS σ s).2.Ok := cd_ok (fun _ => cd_ok (fun _ => ok) (fun _ => ok)) (fun _ => ok)
theorem told_e (d : Nat) {t : Tn} {μ : amM} (ok : t.Ok) (h : TC 2 t μ) {l : Nat} (hl : l < t.lots) (x : Int) : RD cr2 (d + 3) 69 [2, (l : Int), x] μ = some (bi (t.told l x), μ) := by
  have h64 := ok.le.2
  have four : ∀ {μ : amM}, At cr2 (d + 2) 69 4 [] [0, 0, 0] μ = some (0, μ) := fun {μ} => by
    rw [B69_4, B69_5]; rfl
  unfold Tn.told
  rw [M69, rd_p (by omega) (by omega), Int.toNat_natCast, (h.2.1 l hl).1]
  by_cases q : t.kind l = -1
  · rw [if_pos q, q, show ((-1 : Int) == -1) = true from rfl, cond_true]
    by_cases q2 : x = -1
    · rw [if_pos q2, B69_2, q2]; rfl
    · rw [if_neg q2, B69_1, B69_2, beq_false_of_ne q2]; rfl
  · have hc := (ok.2 l hl).2 q
    rw [if_neg q, beq_false_of_ne q, cond_false, B69_3, rd_p (by omega) (by omega), Int.toNat_natCast, ((h.2.1 l hl).2 q).2, blanksOf_e _ _ hc.2.2, bnd_s]
    by_cases q2 : blk0 (t.code l) = 0
    · rw [if_pos q2, q2, rd_p (by omega) (by omega), Int.toNat_natCast, ((h.2.1 l hl).2 q).2, numberOf_e _ _ hc.2.2, bnd_s]
      by_cases q3 : numOf (t.code l) = x
      · rw [if_pos q3, B69_5, q3, show ((0 : Int) == 0) = true from rfl, beq_self_eq_true]; rfl
      · rw [if_neg q3, four, beq_false_of_ne q3]; rfl
    · rw [if_neg q2, four, beq_false_of_ne q2]; rfl
theorem judge_loop (d : Nat) {σ : St} {μ : amM} (ok : σ.Ok) (h : CI σ μ) {k : Nat} (hk : k < 4) : ∀ n i, i + n = min (σ.ss k) σ.t.lots → At cr2 (d + 10) 134 3 [] [0, 0, ((63 + 2 * k : Nat) : Int), (σ.t.lots : Int), (i : Int)] μ = some (jdg σ.t (σ.ss k) (σ.sn k) n i, μ)
  | 0, i, hi => by
    have hp := h.2.2.2.2.1 k hk
    have five : At cr2 (d + 10) 134 5 [] [0, 0, ((63 + 2 * k : Nat) : Int), (σ.t.lots : Int), 0] μ = some (jdg σ.t (σ.ss k) (σ.sn k) 0 i, μ) := by
      unfold jdg
      rw [B134_5, shS hk, hp.2.1]
      by_cases q : σ.ss k = σ.t.lots
      · rw [if_pos (by omega), if_pos q, B134_7]
      · rw [if_neg (by omega), if_neg q, B134_6, shS hk, hp.2.1, B134_7]
        unfold jmin
        congr 2
        split <;> omega
    rw [B134_3, shS hk, hp.2.1]
    by_cases q : (i : Int) < (σ.ss k : Nat)
    · rw [if_pos q, if_neg (by omega)]; exact five
    · rw [if_neg q]; exact five
  | n + 1, i, hi => by
    have hp := h.2.2.2.2.1 k hk
    have s64 := (ok.2.2.1 k hk).2
    rw [B134_3, shS hk, hp.2.1, if_pos (by omega), if_pos (by omega), shN hk, shA hk (by omega) (by omega), Int.toNat_natCast, hp.2.2 i (by omega), told_e _ ok.t h.tc (by omega), bnd_s, ifb]
    unfold jdg
    cases σ.t.told i (σ.sn k i) with
    | true =>
      rw [cond_true, cond_true, B134_4, w32_i (by omega) (by omega)]
      exact judge_loop d ok h hk n (i + 1) (by omega)
    | false => rfl
theorem judge_c (d : Nat) {σ : St} {μ : amM} (ok : σ.Ok) (h : CI σ μ) (s : Int) : OC μ (RD cr2 (d + 20) 134 [0, s] μ) (judgeS σ s) := by
  unfold judgeS
  rw [M134, isSheet_e, bnd_s, ifb]
  refine OC.cd (fun hs => ?_) (fun _ => (OC.no _ h (by decide) (by decide)).bi (fun _ _ => rfl))
  obtain ⟨k, rfl, hk⟩ := isSh_n hs
  have hp := h.2.2.2.2.1 k hk
  rw [B134_1, shQ hk, if_pos (shT hk), shMiss_e _ hk, bnd_s, ifb, Int.toNat_natCast, hp.1]
  refine OC.cd (fun _ => (OC.no _ h (by decide) (by decide)).bi (fun _ _ => rfl)) (fun hb => ?_)
  have e := judge_loop (d + 9) ok h hk _ 0 (Nat.zero_add _)
  rw [B134_2, h.tc.1.2.2.2.1]
  exact ⟨μ, e, h, same.rf⟩
theorem blk_b (t : Tn) (l : Nat) : (blk0 (t.code l) == 0) = !(mk (t.code l) 0 == 3 || mk (t.code l) 1 == 3 || mk (t.code l) 2 == 3 || mk (t.code l) 3 == 3) := by
  unfold blk0
  by_cases q0 : mk (t.code l) 0 = 3 <;> by_cases q1 : mk (t.code l) 1 = 3 <;> by_cases q2 : mk (t.code l) 2 = 3 <;> by_cases q3 : mk (t.code l) 3 = 3 <;> simp [q0, q1, q2, q3]
theorem mTold_e (d : Nat) {t : Tn} {μ : amM} (ok : t.Ok) (h : TM 72 t μ) {l : Nat} (hl : l < t.lots) (x : Int) : RD cr2 (d + 3) 257 [71, (l : Int), x] μ = some (bi (t.told l x), μ) := by
  have eight : At cr2 (d + 2) 257 8 [] [0, 0, 0, 0, 0] μ = some (0, μ) := by rw [B257_8, B257_9]; rfl
  have six : At cr2 (d + 2) 257 6 [] [0, 0, 0, 0, 0] μ = some (0, μ) := by rw [B257_6, B257_9]; rfl
  rw [M257]
  by_cases q : t.kind l = -1
  · have st : ∀ k : Nat, k < 4 → At cr2 (d + 2) 257 1 [] [71, (l : Int), x, 0, (k : Int)] μ = At cr2 (d + 2) 257 1 [] [71, (l : Int), x, 0, ((k + 1 : Nat) : Int)] μ := fun k hk => by
      rw [B257_1, if_pos (by omega), if_pos rfl, mEmpty_e _ ok h hl, bnd_s, q, if_neg (by decide), B257_3, B257_4, w32_i (by omega) (by omega)]
      rfl
    refine (st 0 (by decide)).trans ((st 1 (by decide)).trans ((st 2 (by decide)).trans ((st 3 (by decide)).trans ?_)))
    unfold Tn.told
    rw [B257_1, if_neg (by decide), B257_5, mEmpty_e _ ok h hl, bnd_s, q, if_neg (by decide)]
    by_cases q2 : x = -1
    · rw [if_pos q2, B257_9, q2]; rfl
    · rw [if_neg q2, six, show ((-1 : Int) == -1) = true from rfl, cond_true, beq_false_of_ne q2]; rfl
  · have st : ∀ (k : Nat) (b : Bool), k < 4 → At cr2 (d + 2) 257 1 [] [71, (l : Int), x, bi b, (k : Int)] μ = At cr2 (d + 2) 257 1 [] [71, (l : Int), x, bi (b || mk (t.code l) k == 3), ((k + 1 : Nat) : Int)] μ := fun k b hk => by
      rw [B257_1, if_pos (by omega), ifb]
      cases b with
      | true =>
        rw [cond_true, B257_2, B257_4, w32_i (by omega) (by omega)]
        rfl
      | false =>
        rw [cond_false, mEmpty_e _ ok h hl, bnd_s, beq_false_of_ne q, if_pos (show bi false = 0 from rfl), mMark_e _ ok h hl hk q, bnd_s]
        by_cases q3 : mk (t.code l) k = 3
        · rw [if_pos q3, B257_2, B257_4, w32_i (by omega) (by omega), q3]
          rfl
        · rw [if_neg q3, B257_3, B257_4, w32_i (by omega) (by omega), beq_false_of_ne q3]
          rfl
    refine (st 0 false (by decide)).trans ((st 1 _ (by decide)).trans ((st 2 _ (by decide)).trans ((st 3 _ (by decide)).trans ?_)))
    unfold Tn.told
    rw [B257_1, if_neg (by decide), B257_5, mEmpty_e _ ok h hl, bnd_s, beq_false_of_ne q, if_pos (show bi false = 0 from rfl), B257_7, ifb, cond_false, blk_b, Bool.false_or]
    cases (mk (t.code l) 0 == 3 || mk (t.code l) 1 == 3 || mk (t.code l) 2 == 3 || mk (t.code l) 3 == 3) with
    | true => exact eight
    | false =>
      rw [cond_false, mNumber_e _ ok h hl q, bnd_s]
      by_cases q3 : numOf (t.code l) = x
      · rw [if_pos q3, B257_9, q3, beq_self_eq_true]; rfl
      · rw [if_neg q3, eight, beq_false_of_ne q3]; rfl
theorem judge_mloop (d : Nat) {σ : St} {μ : amM} (ok : σ.Ok) (h : MI σ μ) {k : Nat} (hk : k < 4) : ∀ n i, i + n = min (σ.ss k) σ.t.lots → At cr2 (d + 10) 258 3 [] [71, (k : Int), (i : Int)] μ = some (jdg σ.t (σ.ss k) (σ.sn k) n i, μ)
  | 0, i, hi => by
    have hp := h.2.2.2.2.1 k hk
    have four : At cr2 (d + 10) 258 4 [] [71, (k : Int), (i : Int)] μ = some (jdg σ.t (σ.ss k) (σ.sn k) 0 i, μ) := by
      unfold jdg
      rw [B258_4, rd_p (by omega) (by omega), Int.toNat_natCast, hp.2.1]
      by_cases q : (i : Int) = (σ.ss k : Nat)
      · rw [if_pos q, mLots_e _ ok.t h.tm, bnd_s]
        by_cases q2 : (i : Int) = (σ.t.lots : Nat)
        · rw [if_pos q2, B258_6, if_pos (by omega)]
        · rw [if_neg q2, B258_5, B258_6, if_neg (by omega)]
      · rw [if_neg q, B258_5, B258_6, if_neg (by omega)]
    rw [B258_3, rd_p (by omega) (by omega), Int.toNat_natCast, hp.2.1]
    by_cases q : (i : Int) < (σ.ss k : Nat)
    · rw [if_pos q, mLots_e _ ok.t h.tm, bnd_s, if_neg (by omega)]; exact four
    · rw [if_neg q]; exact four
  | n + 1, i, hi => by
    have hp := h.2.2.2.2.1 k hk
    have s64 := (ok.2.2.1 k hk).2
    rw [B258_3, rd_p (by omega) (by omega), Int.toNat_natCast, hp.2.1, if_pos (by omega), mLots_e _ ok.t h.tm, bnd_s, if_pos (by omega), w32_i (x := 64 * (k : Int)) (by omega) (by omega), w32_i (x := 64 * (k : Int) + i) (by omega) (by omega), rd_p (by omega) (by omega), show (64 * (k : Int) + i).toNat = 64 * k + i by omega, hp.2.2 i (by omega), mTold_e _ ok.t h.tm (by omega), bnd_s, ifb]
    unfold jdg
    cases σ.t.told i (σ.sn k i) with
    | true =>
      rw [cond_true, cond_true, w32_i (by omega) (by omega)]
      exact judge_mloop d ok h hk n (i + 1) (by omega)
    | false =>
      rw [cond_false, cond_false, B258_4, rd_p (by omega) (by omega), Int.toNat_natCast, hp.2.1, if_neg (by omega), B258_5, B258_6]
theorem judge_m (d : Nat) {σ : St} {μ : amM} (ok : σ.Ok) (h : MI σ μ) (s : Int) : OM μ (RD cr2 (d + 20) 258 [71, s] μ) (judgeS σ s) := by
  unfold judgeS
  rw [M258, mSheet_e, bnd_s, ifb]
  refine OM.cd (fun hs => ?_) (fun _ => (OM.no _ ok h (by decide) (by decide)).bi (fun _ _ => rfl))
  obtain ⟨k, rfl, hk⟩ := isSh_n hs
  have hp := h.2.2.2.2.1 k hk
  rw [B258_1, rd_p (by omega) (by omega), Int.toNat_natCast, hp.1]
  by_cases q : σ.sb k = 0
  · rw [if_pos q, q, show ((0 : Int) == 0) = true from rfl, cond_true]
    exact (OM.no _ ok h (by decide) (by decide)).bi (fun _ _ => rfl)
  · rw [if_neg q, beq_false_of_ne q, cond_false, B258_2]
    exact ⟨μ, judge_mloop (d + 9) ok h hk _ 0 (Nat.zero_add _), h, same.rf⟩
/-! builds -/
def bld (f : Nat → Int) : Nat → Nat → Tn → Nat × Tn
  | 0, i, t => (i, t)
  | n + 1, i, t => if t.why i 0 (f i) = 0 then bld f n (i + 1) (t.put i 0 0 (hc (f i))) else (i, t)
def buildsS (σ : St) (s : Int) : Int × St := bif isSh s then (bif σ.sb s.toNat == 0 then σ.no 2 else (((bld (σ.sn s.toNat) (σ.ss s.toNat) 0 σ.t).1 : Int), σ.setT (bld (σ.sn s.toNat) (σ.ss s.toNat) 0 σ.t).2)) else σ.no 1
theorem bld_ok (f : Nat → Int) : ∀ (n i : Nat) {t : Tn}, t.Ok → (bld f n i t).2.Ok
  | 0, _, _, ok => ok
  | n + 1, i, t, ok => by
    unfold bld
    by_cases q : t.why i 0 (f i) = 0
    · rw [if_pos q]
      obtain ⟨m, a, b, e1, e2, e3, hn, ha, hb, hk, hf⟩ := why_0 q
      exact bld_ok f n (i + 1) (ok.put _ (by decide) (fun _ => ⟨by decide, by decide, hc_R (by omega)⟩))
    · rw [if_neg q]
      exact ok
theorem builds_ok {σ : St} (ok : σ.Ok) (s : Int) : (buildsS σ s).2.Ok := cd_ok (fun _ => cd_ok (fun _ => ok) (fun _ => ok.setT (bld_ok _ _ _ ok.t))) (fun _ => ok)
theorem builds_loop (d : Nat) {σ : St} (okσ : σ.Ok) {k : Nat} (hk : k < 4) : ∀ (n i : Nat) (t : Tn) (μ : amM), i + n = σ.ss k → t.Ok → CI (σ.setT t) μ → ∃ μ', At cr2 (d + 10) 133 3 [] [0, 0, ((63 + 2 * k : Nat) : Int), (i : Int)] μ = some (((bld (σ.sn k) n i t).1 : Int), μ') ∧ CI (σ.setT (bld (σ.sn k) n i t).2) μ' ∧ same FC μ μ'
  | 0, i, t, μ, hi, ok, h => by
    have hp := h.2.2.2.2.1 k hk
    have e : μ (63 + 2 * k) 2 = (σ.ss k : Nat) := hp.2.1
    rw [B133_3, shS hk, e, if_neg (by omega), B133_5, shS hk, e]
    exact ⟨μ, by unfold bld; rw [show σ.ss k = i by omega], h, same.rf⟩
  | n + 1, i, t, μ, hi, ok, h => by
    have hp := h.2.2.2.2.1 k hk
    have e : μ (63 + 2 * k) 2 = (σ.ss k : Nat) := hp.2.1
    have e3 : μ (64 + 2 * k) i = σ.sn k i := hp.2.2 i (show i < σ.ss k by omega)
    have s64 := (okσ.2.2.1 k hk).2
    have okt : (σ.setT t).Ok := okσ.setT ok
    rw [B133_3, shS hk, e, if_pos (by omega), shN hk, shA hk (by omega) (by omega), Int.toNat_natCast, e3, why_e _ okt h, bnd_s]
    unfold bld
    by_cases q : t.why i 0 (σ.sn k i) = 0
    · obtain ⟨m, a, b, e1, e2, e4, hn, ha, hb, hkk, hf⟩ := why_0 q
      have hb2 : 0 ≤ σ.sn k i ∧ σ.sn k i < 81 := by omega
      have h64 := ok.le.2
      rw [if_pos (show (σ.setT t).t.why i 0 (σ.sn k i) = 0 from q), if_pos q, B133_4, shN hk, shA hk (by omega) (by omega), Int.toNat_natCast, e3, codeOf_e _ _ hb2, bnd_s, place_e _ (by omega), bnd_s, w32_i (by omega) (by omega)]
      have h2 : CI (σ.setT (t.put i 0 0 (hc (σ.sn k i)))) (up (up (up μ 3 i 0) 4 i 0) 5 i (hc (σ.sn k i))) := h.setT (SL_T i (place_s i _ _ _ _)) (place_t h.tc i _ _ _)
      obtain ⟨μ', g1, g2, g3⟩ := builds_loop d okσ hk n (i + 1) _ _ (by omega) (ok.put i (by decide) (fun _ => ⟨by decide, by decide, hc_R hb2⟩)) h2
      exact ⟨μ', g1, g2, (SL_F i (place_s i _ _ _ _)).tr g3⟩
    · rw [if_neg (show ¬ (σ.setT t).t.why i 0 (σ.sn k i) = 0 from q), if_neg q]
      exact ⟨μ, rfl, h, same.rf⟩
theorem builds_c (d : Nat) {σ : St} {μ : amM} (ok : σ.Ok) (h : CI σ μ) (s : Int) : OC μ (RD cr2 (d + 20) 133 [0, s] μ) (buildsS σ s) := by
  unfold buildsS
  rw [M133, isSheet_e, bnd_s, ifb]
  refine OC.cd (fun hs => ?_) (fun _ => (OC.no _ h (by decide) (by decide)).bi (fun _ _ => rfl))
  obtain ⟨k, rfl, hk⟩ := isSh_n hs
  have hp := h.2.2.2.2.1 k hk
  rw [B133_1, shQ hk, if_pos (shT hk), shMiss_e _ hk, bnd_s, ifb, Int.toNat_natCast, hp.1]
  refine OC.cd (fun _ => (OC.no _ h (by decide) (by decide)).bi (fun _ _ => rfl)) (fun hb => ?_)
  obtain ⟨μ', g1, g2, g3⟩ := builds_loop (d + 9) ok hk (σ.ss k) 0 σ.t μ (Nat.zero_add _) ok.t h
  rw [B133_2]
  exact ⟨μ', g1, g2, g3⟩
theorem builds_mloop (d : Nat) {σ : St} (okσ : σ.Ok) {k : Nat} (hk : k < 4) : ∀ (n i : Nat) (t : Tn) (μ : amM), i + n = σ.ss k → t.Ok → MI (σ.setT t) μ → ∃ μ', At cr2 (d + 10) 256 3 [] [71, (k : Int), (i : Int), 1, 0] μ = some (((bld (σ.sn k) n i t).1 : Int), μ') ∧ MI (σ.setT (bld (σ.sn k) n i t).2) μ' ∧ same FM μ μ'
  | 0, i, t, μ, hi, ok, h => by
    have hp := h.2.2.2.2.1 k hk
    have e : μ 92 k = (σ.ss k : Nat) := hp.2.1
    rw [B256_3, rd_p (by omega) (by omega), Int.toNat_natCast, e, if_neg (by omega), B256_8]
    exact ⟨μ, rfl, h, same.rf⟩
  | n + 1, i, t, μ, hi, ok, h => by
    have hp := h.2.2.2.2.1 k hk
    have e : μ 92 k = (σ.ss k : Nat) := hp.2.1
    have e3 : μ 93 (64 * k + i) = σ.sn k i := hp.2.2 i (show i < σ.ss k by omega)
    have s64 := (okσ.2.2.1 k hk).2
    have okt : (σ.setT t).Ok := okσ.setT ok
    have h64 := ok.le.2
    have stop : ∀ μ1, MI (σ.setT t) μ1 → At cr2 (d + 10) 256 4 [] [71, (k : Int), (i : Int), 0, 0] μ1 = some ((i : Int), μ1) := fun μ1 h1 => by
      have e1 : μ1 92 k = (σ.ss k : Nat) := (h1.2.2.2.2.1 k hk).2.1
      rw [B256_4, B256_5, if_pos rfl, B256_6, B256_7, w32_i (by omega) (by omega), Int.add_zero, B256_3, rd_p (by omega) (by omega), Int.toNat_natCast, e1, if_pos (by omega), if_pos rfl, B256_8]
    rw [B256_3, rd_p (by omega) (by omega), Int.toNat_natCast, e, if_pos (by omega), if_neg (by decide), w32_i (x := 64 * (k : Int)) (by omega) (by omega), w32_i (x := 64 * (k : Int) + i) (by omega) (by omega), rd_p (by omega) (by omega), show (64 * (k : Int) + i).toNat = 64 * k + i by omega, e3, mLot_e _ okt h, bnd_s, ifb]
    unfold bld
    have nay : ∀ μ1, t.why i 0 (σ.sn k i) ≠ 0 → MI (σ.setT t) μ1 → same FM μ μ1 → ∃ μ', At cr2 (d + 10) 256 4 [] [71, (k : Int), (i : Int), 0, 0] μ1 = some (((if t.why i 0 (σ.sn k i) = 0 then bld (σ.sn k) n (i + 1) (t.put i 0 0 (hc (σ.sn k i))) else (i, t)).1 : Int), μ') ∧ MI (σ.setT (if t.why i 0 (σ.sn k i) = 0 then bld (σ.sn k) n (i + 1) (t.put i 0 0 (hc (σ.sn k i))) else (i, t)).2) μ' ∧ same FM μ μ' := fun μ1 q h1 h2 => by
      rw [if_neg q]
      exact ⟨μ1, stop μ1 h1, h1, h2⟩
    have wy : t.why i 0 (σ.sn k i) = bif t.isLot i then (bif (decide (0 ≤ (0 : Int)) && decide ((0 : Int) ≤ 69)) then (bif (decide (0 ≤ σ.sn k i) && decide (σ.sn k i ≤ 80)) then (bif t.kind (i : Int).toNat == -1 then (bif t.fit (i : Int).toNat 0 (σ.sn k i) then 0 else 5) else 3) else 1) else 1) else 1 := rfl
    rw [show (decide (0 ≤ (0 : Int)) && decide ((0 : Int) ≤ 69)) = true from by decide, cond_true, Int.toNat_natCast] at wy
    show ∃ μ', (bif t.isLot i then _ else _) = _ ∧ _
    cases h1 : t.isLot i with
    | false =>
      rw [h1, cond_false] at wy
      rw [cond_false]
      exact nay μ (by rw [wy]; decide) h same.rf
    | true =>
      obtain ⟨i', e', hn⟩ := isLot_n h1
      have hn : i < t.lots := by omega
      rw [h1, cond_true] at wy
      rw [cond_true, in_e, bnd_s, ifb]
      cases h3 : (decide (0 ≤ σ.sn k i) && decide (σ.sn k i ≤ 80)) with
      | false =>
        rw [h3, cond_false] at wy
        rw [cond_false]
        exact nay μ (by rw [wy]; decide) h same.rf
      | true =>
        obtain ⟨b, eb, hb⟩ := wi_n h3
        rw [h3, cond_true] at wy
        rw [cond_true, mEmpty_e _ ok h.tm hn, bnd_s, ifb]
        cases h4 : (t.kind i == -1) with
        | false =>
          rw [h4, cond_false] at wy
          rw [cond_false]
          exact nay μ (by rw [wy]; decide) h same.rf
        | true =>
          have he := eq_of_beq h4
          rw [h4, cond_true] at wy
          obtain ⟨μ1, a1, a2, a3, a4⟩ := raises_e (d + 4) ok h.tm hn he (km := 0) (by decide) (show 0 ≤ σ.sn k i ∧ σ.sn k i < 81 by omega)
          rw [cond_true, a1, bnd_s, ifb]
          cases hf : t.fit i 0 (σ.sn k i) with
          | false =>
            rw [hf, cond_false] at wy
            rw [hf] at a2
            rw [cond_false]
            exact nay μ1 (by rw [wy]; decide) (show MI ((σ.setT t).setT t) μ1 from h.setT okt a3 a2) a4
          | true =>
            rw [hf, cond_true] at wy
            rw [hf] at a2
            have a2 : TM 72 (t.put i 0 0 (hc (σ.sn k i))) μ1 := a2
            have h2 : MI (σ.setT (t.put i 0 0 (hc (σ.sn k i)))) μ1 := show MI ((σ.setT t).setT (t.put i 0 0 (hc (σ.sn k i)))) μ1 from h.setT okt a3 a2
            obtain ⟨μ', g1, g2, g3⟩ := builds_mloop d okσ hk n (i + 1) _ μ1 (by omega) (ok.put i (by decide) (fun _ => ⟨by decide, by decide, hc_R (by omega)⟩)) h2
            rw [cond_true, if_pos wy, B256_5, if_neg (by decide), B256_7, w32_i (by omega) (by omega)]
            exact ⟨μ', g1, g2, a4.tr g3⟩
theorem builds_m (d : Nat) {σ : St} {μ : amM} (ok : σ.Ok) (h : MI σ μ) (s : Int) : OM μ (RD cr2 (d + 20) 256 [71, s] μ) (buildsS σ s) := by
  unfold buildsS
  rw [M256, mSheet_e, bnd_s, ifb]
  refine OM.cd (fun hs => ?_) (fun _ => (OM.no _ ok h (by decide) (by decide)).bi (fun _ _ => rfl))
  obtain ⟨k, rfl, hk⟩ := isSh_n hs
  have hp := h.2.2.2.2.1 k hk
  rw [B256_1, rd_p (by omega) (by omega), Int.toNat_natCast, hp.1]
  by_cases q : σ.sb k = 0
  · rw [if_pos q, q, show ((0 : Int) == 0) = true from rfl, cond_true]
    exact (OM.no _ ok h (by decide) (by decide)).bi (fun _ _ => rfl)
  · obtain ⟨μ', g1, g2, g3⟩ := builds_mloop (d + 9) ok hk (σ.ss k) 0 σ.t μ (Nat.zero_add _) ok.t h
    rw [if_neg q, beq_false_of_ne q, cond_false, B256_2]
    exact ⟨μ', g1, g2, g3⟩
