/-! ===== storms ===== -/
def Tn.hit (t : Tn) (k : Nat) (s : Int) (l : Nat) : Bool := t.bound l && mk (t.code l) k == s
def Tn.blt (t : Tn) (k : Nat) (s : Int) (n : Nat) : Tn := (t.1, t.2.1, t.2.2.1, t.2.2.2.1, t.2.2.2.2.1, t.kind, t.m, fun l => if l < n ∧ t.hit k s l = true then ws (t.code l) k 3 else t.code l)
def Tn.blow (t : Tn) (k : Nat) (s : Int) : Tn := t.blt k s t.lots
theorem blt_0 (t : Tn) (k : Nat) (s : Int) : t.blt k s 0 = t := by
  have e : (fun l => if l < 0 ∧ t.hit k s l = true then ws (t.code l) k 3 else t.code l) = t.code := by
    funext l
    rw [if_neg (fun q => Nat.not_lt_zero l q.1)]
  unfold Tn.blt
  rw [e]
  rfl
theorem blt_ok {t : Tn} (ok : t.Ok) {k : Nat} (hk : k < 4) (s : Int) (n : Nat) : (t.blt k s n).Ok := by
  refine ⟨ok.1, fun l hl => ⟨(ok.2 l hl).1, fun hn => ?_⟩⟩
  have q := (ok.2 l hl).2 hn
  refine ⟨q.1, q.2.1, ?_⟩
  show 0 ≤ (if l < n ∧ t.hit k s l = true then ws (t.code l) k 3 else t.code l) ∧ (if l < n ∧ t.hit k s l = true then ws (t.code l) k 3 else t.code l) < 256
  by_cases e : l < n ∧ t.hit k s l = true
  · rw [if_pos e]
    exact (mk_ws q.2.2 hk (by decide) (j := 0) (by decide)).2
  · rw [if_neg e]
    exact q.2.2
theorem blt_code (t : Tn) (k : Nat) (s : Int) (n : Nat) : (t.blt k s n).code n = t.code n := if_neg (fun q => Nat.lt_irrefl n q.1)
theorem blt_miss {t : Tn} {k : Nat} {s : Int} {n : Nat} (h : t.hit k s n = false) : (t.blt k s n).eqv (t.blt k s (n + 1)) := by
  refine ⟨⟨rfl, rfl, rfl, rfl, rfl⟩, fun l _ => ⟨rfl, fun _ => ⟨rfl, ?_⟩⟩⟩
  show (if l < n ∧ t.hit k s l = true then ws (t.code l) k 3 else t.code l) = (if l < n + 1 ∧ t.hit k s l = true then ws (t.code l) k 3 else t.code l)
  by_cases e : l = n
  · subst e
    rw [if_neg (fun q => Nat.lt_irrefl l q.1), if_neg (fun q => by rw [h] at q; cases q.2)]
  · have : (l < n ∧ t.hit k s l = true) = (l < n + 1 ∧ t.hit k s l = true) := by
      apply propext
      constructor
      · exact fun q => ⟨by omega, q.2⟩
      · exact fun q => ⟨by omega, q.2⟩
    simp only [this]
theorem blt_hit {t : Tn} {k : Nat} {s : Int} {n : Nat} (h : t.hit k s n = true) : ((t.blt k s n).put n (t.kind n) (t.m n) (ws (t.code n) k 3)).eqv (t.blt k s (n + 1)) := by
  refine ⟨⟨rfl, rfl, rfl, rfl, rfl⟩, fun l _ => ?_⟩
  by_cases e : l = n
  · subst e
    rw [put_kind_eq, put_m_eq, put_code_eq]
    refine ⟨rfl, fun _ => ⟨rfl, ?_⟩⟩
    show ws (t.code l) k 3 = (if l < l + 1 ∧ t.hit k s l = true then ws (t.code l) k 3 else t.code l)
    rw [if_pos ⟨Nat.lt_succ_self l, h⟩]
  · rw [put_kind_ne _ _ _ _ e, put_m_ne _ _ _ _ e, put_code_ne _ _ _ _ e]
    refine ⟨rfl, fun _ => ⟨rfl, ?_⟩⟩
    show (if l < n ∧ t.hit k s l = true then ws (t.code l) k 3 else t.code l) = (if l < n + 1 ∧ t.hit k s l = true then ws (t.code l) k 3 else t.code l)
    have : (l < n ∧ t.hit k s l = true) = (l < n + 1 ∧ t.hit k s l = true) := by
      apply propext
      constructor
      · exact fun q => ⟨by omega, q.2⟩
      · exact fun q => ⟨by omega, q.2⟩
    simp only [this]
def S5 (c _ : Nat) : Bool := Nat.beq c 5
theorem blow_loop (d : Nat) {t : Tn} (ok : t.Ok) {k : Nat} (hk : k < 4) (s : Int) : ∀ (n i : Nat) (μ : amM), i + n = t.lots → TC 2 (t.blt k s i) μ → ∃ μ', At cr2 (d + 2) 82 1 [] [2, (k : Int), s, (cntL (t.hit k s) i : Int), (i : Int)] μ = some ((cntL (t.hit k s) t.lots : Int), μ') ∧ TC 2 (t.blow k s) μ' ∧ same S5 μ μ'
  | 0, i, μ, hi, h => by
    have hi : i = t.lots := by omega
    subst hi
    rw [B82_1, h.1.2.2.2.1, if_neg (show ¬ (t.lots : Int) < (((t.blt k s t.lots).lots : Nat) : Int) from Int.lt_irrefl _), B82_3]
    exact ⟨μ, rfl, h, same.rf⟩
  | n + 1, i, μ, hi, h => by
    have h64 := ok.le.2
    have hil : i < t.lots := by omega
    have hle := cntL_le (t.hit k s) i
    have hok := blt_ok ok hk s i
    rw [B82_1, h.1.2.2.2.1, if_pos (show (i : Int) < (((t.blt k s i).lots : Nat) : Int) by show (i : Int) < ((t.lots : Nat) : Int); omega), isBound_e _ hok h (lot := i) hil, bnd_s]
    have skip : t.hit k s i = false → ∃ μ', At cr2 (d + 2) 82 2 [] [2, (k : Int), s, (cntL (t.hit k s) i : Int), (i : Int)] μ = some ((cntL (t.hit k s) t.lots : Int), μ') ∧ TC 2 (t.blow k s) μ' ∧ same S5 μ μ' := fun hf => by
      have ih := blow_loop d ok hk s n (i + 1) μ (by omega) (h.eqv (blt_miss hf))
      rw [cntL_succ, hf] at ih
      rw [B82_2, w32_i (by omega) (by omega)]
      exact ih
    cases hb : t.bound i with
    | false =>
      rw [show (t.blt k s i).bound i = t.bound i from rfl, hb, if_pos (show bi false = 0 from rfl)]
      refine skip ?_
      unfold Tn.hit
      rw [hb]; rfl
    | true =>
      have ne := Tn.bound_ne hb
      have q := (ok.2 i hil).2 ne
      have hc := ((h.2.1 i hil).2 ne).2
      rw [blt_code] at hc
      have hc : μ 5 i = t.code i := hc
      rw [show (t.blt k s i).bound i = t.bound i from rfl, hb, if_neg (show ¬ bi true = 0 from by decide), rd_p (by omega) (by omega), Int.toNat_natCast, hc, sortAt_e _ _ q.2.2 (by omega), bnd_s, Int.toNat_natCast]
      by_cases e : mk (t.code i) k = s
      · have hf : t.hit k s i = true := by
          unfold Tn.hit
          rw [hb, e, beq_self_eq_true]; rfl
        have hs : same (SL i) μ (up μ 5 i (ws (t.code i) k 3)) := same.rf.up (SL_5 i)
        have hs5 : same S5 μ (up μ 5 i (ws (t.code i) k 3)) := same.rf.up rfl
        have ht : TC 2 (t.blt k s (i + 1)) (up μ 5 i (ws (t.code i) k 3)) := (h.put hs ((h.2.1 i hil).1) (fun _ => ⟨((h.2.1 i hil).2 ne).1, up_eq _ _ _ _⟩)).eqv (blt_hit hf)
        obtain ⟨μ', g1, g2, g3⟩ := blow_loop d ok hk s n (i + 1) _ (by omega) ht
        rw [cntL_succ, hf] at g1
        rw [if_pos e, rd_p (by omega) (by omega), Int.toNat_natCast, hc, withSort_e _ _ q.2.2 (by omega) (by decide), bnd_s, Int.toNat_natCast, wr_p (by omega) (by omega), Int.toNat_natCast, w32_i (by omega) (by omega), B82_2, w32_i (x := (i : Int) + 1) (by omega) (by omega)]
        exact ⟨μ', g1, g2, hs5.tr g3⟩
      · rw [if_neg e]
        refine skip ?_
        unfold Tn.hit
        rw [beq_false_of_ne e, Bool.and_false]
theorem blow_e (d : Nat) {t : Tn} {μ : amM} (ok : t.Ok) (h : TC 2 t μ) {k : Nat} (hk : k < 4) (s : Int) : ∃ μ', RD cr2 (d + 3) 82 [2, (k : Int), s] μ = some ((cntL (t.hit k s) t.lots : Int), μ') ∧ TC 2 (t.blow k s) μ' ∧ same S5 μ μ' := by
  rw [M82]
  exact blow_loop d ok hk s t.lots 0 μ (Nat.zero_add _) (by rw [blt_0]; exact h)
def stormS (σ : St) (k s : Int) : Int × St := bif isMS k s then ((cntL (σ.t.hit k.toNat s) σ.t.lots : Int), σ.setT (σ.t.blow k.toNat s)) else σ.no 1
theorem storm_ok {σ : St} (ok : σ.Ok) (k s : Int) : (stormS σ k s).2.Ok := by
  refine cd_ok (fun q => ?_) (fun _ => ok)
  obtain ⟨a, b, rfl, rfl, ha, hb⟩ := isMS_n q
  exact ok.setT (blt_ok ok.t ha _ _)
theorem S5_T {μ μ' : amM} (h : same S5 μ μ') : same (or2 gT ScC) μ μ' := by
  refine h.wide (fun c i q => ?_)
  have q := or2_l q
  cases e : S5 c i with
  | false => rfl
  | true => rw [Nat.eq_of_beq_eq_true e] at q; cases q
theorem S5_F {μ μ' : amM} (h : same S5 μ μ') : same FC μ μ' := by
  refine h.wide (fun c i q => ?_)
  cases e : S5 c i with
  | false => rfl
  | true => rw [Nat.eq_of_beq_eq_true e] at q; cases q
theorem storm_c (d : Nat) {σ : St} {μ : amM} (ok : σ.Ok) (h : CI σ μ) (k s : Int) : OC μ (RD cr2 (d + 20) 120 [0, k, s] μ) (stormS σ k s) := by
  unfold stormS
  rw [M120, isMS_e, bnd_s, ifb]
  refine OC.cd (fun q => ?_) (fun _ => (OC.no _ h (by decide) (by decide)).bi (fun _ _ => rfl))
  obtain ⟨a, b, rfl, rfl, ha, hb⟩ := isMS_n q
  obtain ⟨μ', g1, g2, g3⟩ := blow_e (d + 16) ok.t h.tc ha (b : Int)
  rw [B120_1, g1, bnd_s, Int.toNat_natCast]
  exact ⟨μ', rfl, h.setT (S5_T g3) g2, S5_F g3⟩
/-! the reference -/
def T148 (c i : Nat) : Bool := Nat.beq c 72 && (Nat.ble 148 i && Nat.ble i 403)
theorem T148_t {i : Nat} (h1 : 148 ≤ i) (h2 : i ≤ 403) : T148 72 i = true := by
  unfold T148
  rw [ble_t h1, ble_t h2]; rfl
theorem takes_loop (d : Nat) {t : Tn} (ok : t.Ok) {k : Nat} (hk : k < 4) (s : Int) : ∀ (n i : Nat) (μ : amM), i + n = t.lots → TM 72 (t.blt k s i) μ → ∃ μ', At cr2 (d + 2) 230 1 [] [71, (k : Int), s, (cntL (t.hit k s) i : Int), (i : Int)] μ = some ((cntL (t.hit k s) t.lots : Int), μ') ∧ TM 72 (t.blow k s) μ' ∧ same T148 μ μ'
  | 0, i, μ, hi, h => by
    have hi : i = t.lots := by omega
    subst hi
    rw [B230_1, mLots_e _ (blt_ok ok hk s t.lots) h, bnd_s, if_neg (show ¬ (t.lots : Int) < (((t.blt k s t.lots).lots : Nat) : Int) from Int.lt_irrefl _), B230_3]
    exact ⟨μ, rfl, h, same.rf⟩
  | n + 1, i, μ, hi, h => by
    have h64 := ok.le.2
    have hil : i < t.lots := by omega
    have hle := cntL_le (t.hit k s) i
    have hok := blt_ok ok hk s i
    rw [B230_1, mLots_e _ hok h, bnd_s, if_pos (show (i : Int) < (((t.blt k s i).lots : Nat) : Int) by show (i : Int) < ((t.lots : Nat) : Int); omega), mBound_e _ hok h (lot := i) hil, bnd_s]
    have skip : t.hit k s i = false → ∃ μ', At cr2 (d + 2) 230 2 [] [71, (k : Int), s, (cntL (t.hit k s) i : Int), (i : Int)] μ = some ((cntL (t.hit k s) t.lots : Int), μ') ∧ TM 72 (t.blow k s) μ' ∧ same T148 μ μ' := fun hf => by
      have ih := takes_loop d ok hk s n (i + 1) μ (by omega) (h.eqv (blt_miss hf))
      rw [cntL_succ, hf] at ih
      rw [B230_2, w32_i (by omega) (by omega)]
      exact ih
    cases hb : t.bound i with
    | false =>
      rw [show (t.blt k s i).bound i = t.bound i from rfl, hb, if_pos (show bi false = 0 from rfl)]
      refine skip ?_
      unfold Tn.hit
      rw [hb]; rfl
    | true =>
      have ne := Tn.bound_ne hb
      have q := (ok.2 i hil).2 ne
      have hq := (h.2 i hil).2 ne
      have hcc : (t.blt k s i).code i = t.code i := blt_code t k s i
      rw [show (t.blt k s i).bound i = t.bound i from rfl, hb, if_neg (show ¬ bi true = 0 from by decide), mMark_e _ hok h (lot := i) hil hk ne, bnd_s, hcc]
      by_cases e : mk (t.code i) k = s
      · have hf : t.hit k s i = true := by
          unfold Tn.hit
          rw [hb, e, beq_self_eq_true]; rfl
        have hs : same (SM i) μ (up μ 72 (148 + 4 * i + k) 3) := same.rf.up (SM_t3 i hk)
        have hs5 : same T148 μ (up μ 72 (148 + 4 * i + k) 3) := same.rf.up (T148_t (by omega) (by omega))
        have ht : TM 72 (t.blt k s (i + 1)) (up μ 72 (148 + 4 * i + k) 3) := by
          refine TM.eqv (h.put hok (lot := i) hil hs (k := t.kind i) (m := t.m i) (c := ws (t.code i) k 3) ?_ (fun _ => ⟨?_, fun j hj => ?_⟩)) (blt_hit hf)
          · rw [up_if, if_neg (by omega)]; exact (h.2 i hil).1
          · rw [up_if, if_neg (by omega)]; exact hq.1
          · rw [up_if, (mk_ws q.2.2 hk (by decide) hj).1]
            by_cases e2 : j = k
            · rw [if_pos (by omega), if_pos e2]
            · rw [if_neg (by omega), if_neg e2, hq.2 j hj, hcc]
        obtain ⟨μ', g1, g2, g3⟩ := takes_loop d ok hk s n (i + 1) _ (by omega) ht
        rw [cntL_succ, hf] at g1
        rw [if_pos e, sets_e _ ok hil hk, bnd_s, w32_i (by omega) (by omega), B230_2, w32_i (x := (i : Int) + 1) (by omega) (by omega)]
        exact ⟨μ', g1, g2, hs5.tr g3⟩
      · rw [if_neg e]
        refine skip ?_
        unfold Tn.hit
        rw [beq_false_of_ne e, Bool.and_false]
theorem takes_e (d : Nat) {t : Tn} {μ : amM} (ok : t.Ok) (h : TM 72 t μ) {k : Nat} (hk : k < 4) (s : Int) : ∃ μ', RD cr2 (d + 3) 230 [71, (k : Int), s] μ = some ((cntL (t.hit k s) t.lots : Int), μ') ∧ TM 72 (t.blow k s) μ' ∧ same T148 μ μ' := by
  rw [M230]
  exact takes_loop d ok hk s t.lots 0 μ (Nat.zero_add _) (by rw [blt_0]; exact h)
theorem T148_T {μ μ' : amM} (h : same T148 μ μ') : same (or2 hT ScM) μ μ' := by
  refine h.wide (fun c i q => ?_)
  have q := or2_l q
  cases e : T148 c i with
  | false => rfl
  | true =>
    unfold T148 at e
    rw [Bool.and_eq_true, Bool.and_eq_true] at e
    have e1 := Nat.eq_of_beq_eq_true e.1
    subst e1
    unfold hT at q
    rw [e.2.2, ble_t (show 20 ≤ i from Nat.le_trans (by decide) (Nat.le_of_ble_eq_true e.2.1)), Bool.and_self, Bool.or_true] at q
    cases q
theorem T148_F {μ μ' : amM} (h : same T148 μ μ') : same FM μ μ' := by
  refine h.wide (fun c i q => ?_)
  cases e : T148 c i with
  | false => rfl
  | true =>
    unfold T148 at e
    rw [Bool.and_eq_true] at e
    rw [Nat.eq_of_beq_eq_true e.1] at q; cases q
theorem storm_m (d : Nat) {σ : St} {μ : amM} (ok : σ.Ok) (h : MI σ μ) (k s : Int) : OM μ (RD cr2 (d + 20) 231 [71, k, s] μ) (stormS σ k s) := by
  unfold stormS
  rw [M231, mSort_e, bnd_s, ifb]
  refine OM.cd (fun q => ?_) (fun _ => ?_)
  · obtain ⟨a, b, rfl, rfl, ha, hb⟩ := isMS_n q
    obtain ⟨μ', g1, g2, g3⟩ := takes_e (d + 16) ok.t h.tm ha (b : Int)
    rw [g1, bnd_s, B231_2, Int.toNat_natCast]
    exact ⟨μ', rfl, h.setT ok (T148_T g3) g2, T148_F g3⟩
  · rw [B231_1]
    exact (OM.no _ ok h (by decide) (by decide)).bi (fun _ _ => by rw [B231_2])
