/-! ===== acts that look at little: what they answer, and what they leave ===== -/
def Tn.law (t : Tn) (a b : Int) : Tn := (t.1, t.2.1, t.2.2.1, a, b, t.2.2.2.2.2)
def ruleS (σ : St) (w v : Int) : Int × St := bif (decide (0 ≤ w) && decide (w ≤ 1)) then (bif (decide (0 ≤ v) && decide (v ≤ 4)) then (if w = 0 then (if σ.t.most < v then σ.no 3 else (σ.t.least, σ.setT (σ.t.law v σ.t.most))) else (if v < σ.t.least then σ.no 3 else (σ.t.most, σ.setT (σ.t.law σ.t.least v)))) else σ.no 1) else σ.no 1
def pullS (σ : St) (x : Int) : Int × St := bif σ.t.isLot x then (bif σ.t.kind x.toNat == -1 then σ.no 2 else (numOf (σ.t.code x.toNat), σ.setT (σ.t.put x.toNat (-1) 0 0))) else σ.no 1
def becomeS (σ : St) (x y : Int) : Int × St := bif σ.t.isLot x then (bif (decide (0 ≤ y) && decide (y ≤ 69)) then (bif σ.t.kind x.toNat == -1 then σ.no 2 else (σ.t.kind x.toNat, σ.setT (σ.t.put x.toNat (y / 10) (y % 10) (σ.t.code x.toNat)))) else σ.no 1) else σ.no 1
def abv (k : Int) : Int := if k < 4 then 0 else k - 3
def asS (σ : St) (x y : Int) : Int × St := bif σ.t.isLot x then (bif (decide (0 ≤ y) && decide (y ≤ 6)) then (bif σ.t.kind x.toNat == -1 then σ.no 2 else (bif (y == 0 || y == σ.t.kind x.toNat || y == abv (σ.t.kind x.toNat)) then (σ.t.m x.toNat, σ) else σ.no 5)) else σ.no 1) else σ.no 1
def alikeS (σ : St) (x y : Int) : Int × St := bif σ.t.isLot x then (bif σ.t.isLot y then (bif σ.t.kind x.toNat == -1 then σ.no 2 else (bif σ.t.kind y.toNat == -1 then σ.no 2 else (alk (σ.t.code x.toNat) (σ.t.code y.toNat), σ))) else σ.no 1) else σ.no 1
def mayS (σ : St) (x y : Int) : Int × St := bif σ.t.isLot x then (if y < -1 then σ.no 1 else if y = -1 then ((cntB (fun h => σ.t.may x.toNat (hc h)) 81 : Nat), σ) else if sel (fun h => σ.t.may x.toNat (hc h)) (-1) 81 0 y = -1 then σ.no 2 else (sel (fun h => σ.t.may x.toNat (hc h)) (-1) 81 0 y, σ)) else σ.no 1
def countS (σ : St) (x : Int) : Int × St := if x = 0 then ((σ.t.rows : Nat), σ) else if x = 1 then ((σ.t.cols : Nat), σ) else if x = 2 then ((σ.t.shape : Nat), σ) else if x = 3 then (σ.t.least, σ) else if x = 4 then (σ.t.most, σ) else if x = 5 then ((σ.t.houses : Nat), σ) else if x = 6 then (σ.k.y, σ) else if x = 7 then (σ.k.s, σ) else if x = 8 then ((σ.k.nb : Nat), σ) else if x = 9 then ((σ.k.nw : Nat), σ) else if x = 10 then ((σ.tr.length : Nat), σ) else if x = 11 then (σ.k.z, σ) else σ.no 1
def toldS (σ : St) (x : Int) : Int × St := bif (decide (1 ≤ x) && decide (x ≤ 5)) then (σ.rf x.toNat, σ) else σ.no 1
def seedS (σ : St) (x : Int) : Int × St := (σ.k.z, σ.setY σ.k.y σ.k.s x)
def tellS (σ : St) (x : Int) : Int × St := if σ.k.nw < 20 then (((σ.k.nw + 1 : Nat) : Int), σ.setW (σ.k.nw + 1) (fset σ.k.wt σ.k.nw x)) else σ.no 4
def chk (t : Tn) (f : Nat → Int) : Nat → Nat → Int
  | 0, _ => 0
  | n + 1, i => if i < t.lots ∧ ((cntB (fun h => t.may i (hc h)) 81 : Nat) : Int) = f i then chk t f n (i + 1) else 1 + (i : Int)
def checkS (σ : St) : Int × St := (chk σ.t σ.k.wt σ.k.nw 0, σ.setW 0 σ.k.wt)
def traceS (σ : St) (x : Int) : Int × St := bif (decide (0 ≤ x) && decide (x ≤ (σ.tr.length : Int) - 1)) then (σ.tr.getD x.toNat 0, σ) else σ.no 2
/-! ===== they leave a state that is one ===== -/
theorem St.Ok.setT {σ : St} (ok : σ.Ok) {t : Tn} (ht : t.Ok) : (σ.setT t).Ok := ⟨⟨ht, ok.1.2⟩, ok.2⟩
theorem St.Ok.no {σ : St} (ok : σ.Ok) (k : Int) : (σ.no k).2.Ok := ok
theorem cd_ok {b : Bool} {s1 s2 : Int × St} (h1 : b = true → s1.2.Ok) (h2 : b = false → s2.2.Ok) : (bif b then s1 else s2).2.Ok := by
  cases b with
  | true => exact h1 rfl
  | false => exact h2 rfl
theorem if_ok {p : Prop} {hp : Decidable p} {s1 s2 : Int × St} (h1 : p → s1.2.Ok) (h2 : ¬ p → s2.2.Ok) : (if p then s1 else s2).2.Ok := by
  by_cases q : p
  · rw [if_pos q]; exact h1 q
  · rw [if_neg q]; exact h2 q
theorem rule_ok {σ : St} (ok : σ.Ok) (w v : Int) : (ruleS σ w v).2.Ok := by
  have hr := ok.t.1
  refine cd_ok (fun hw => cd_ok (fun hv => if_ok (fun _ => if_ok (fun _ => ok) (fun q => ?_)) (fun _ => if_ok (fun _ => ok) (fun q => ?_))) (fun _ => ok)) (fun _ => ok)
  · obtain ⟨b, rfl, hb⟩ := wi_n hv
    exact ok.setT ⟨⟨hr.1, hr.2.1, hr.2.2.1, hr.2.2.2.1, hr.2.2.2.2.1, by show 0 ≤ (b : Int); omega, by show (b : Int) ≤ σ.t.most; omega, hr.2.2.2.2.2.2.2⟩, ok.t.2⟩
  · obtain ⟨b, rfl, hb⟩ := wi_n hv
    exact ok.setT ⟨⟨hr.1, hr.2.1, hr.2.2.1, hr.2.2.2.1, hr.2.2.2.2.1, hr.2.2.2.2.2.1, by show σ.t.least ≤ (b : Int); omega, by show (b : Int) ≤ 4; omega⟩, ok.t.2⟩
theorem pull_ok {σ : St} (ok : σ.Ok) (x : Int) : (pullS σ x).2.Ok := cd_ok (fun _ => cd_ok (fun _ => ok) (fun _ => ok.setT (ok.t.put _ (by decide) (fun q => absurd rfl q)))) (fun _ => ok)
theorem become_ok {σ : St} (ok : σ.Ok) (x y : Int) : (becomeS σ x y).2.Ok := by
  refine cd_ok (fun hl => cd_ok (fun hy => cd_ok (fun _ => ok) (fun he => ?_)) (fun _ => ok)) (fun _ => ok)
  obtain ⟨n, rfl, hn⟩ := isLot_n hl
  obtain ⟨b, rfl, hb⟩ := wi_n hy
  rw [Int.toNat_natCast] at he ⊢
  have q := (ok.t.2 n hn).2 (fun q => by rw [q] at he; cases he)
  exact ok.setT (ok.t.put n (by omega) (fun _ => ⟨by omega, by omega, q.2.2⟩))
theorem as_ok {σ : St} (ok : σ.Ok) (x y : Int) : (asS σ x y).2.Ok := cd_ok (fun _ => cd_ok (fun _ => cd_ok (fun _ => ok) (fun _ => cd_ok (fun _ => ok) (fun _ => ok))) (fun _ => ok)) (fun _ => ok)
theorem alike_ok {σ : St} (ok : σ.Ok) (x y : Int) : (alikeS σ x y).2.Ok := cd_ok (fun _ => cd_ok (fun _ => cd_ok (fun _ => ok) (fun _ => cd_ok (fun _ => ok) (fun _ => ok))) (fun _ => ok)) (fun _ => ok)
theorem may_ok {σ : St} (ok : σ.Ok) (x y : Int) : (mayS σ x y).2.Ok := cd_ok (fun _ => if_ok (fun _ => ok) (fun _ => if_ok (fun _ => ok) (fun _ => if_ok (fun _ => ok) (fun _ => ok)))) (fun _ => ok)
theorem told_ok {σ : St} (ok : σ.Ok) (x : Int) : (toldS σ x).2.Ok := cd_ok (fun _ => ok) (fun _ => ok)
theorem trace_ok {σ : St} (ok : σ.Ok) (x : Int) : (traceS σ x).2.Ok := cd_ok (fun _ => ok) (fun _ => ok)
theorem seed_ok {σ : St} (ok : σ.Ok) {x : Int} (hx : i32 x) : (seedS σ x).2.Ok := ⟨⟨ok.1.1, ok.1.2.1, ok.1.2.2.1, ok.1.2.2.2.1, ok.1.2.2.2.2.1, ok.1.2.2.2.2.2.1, hx⟩, ok.2⟩
theorem tell_ok {σ : St} (ok : σ.Ok) (x : Int) : (tellS σ x).2.Ok := if_ok (fun q => ⟨⟨ok.1.1, ok.1.2.1, q, ok.1.2.2.2⟩, ok.2⟩) (fun _ => ok)
theorem check_ok {σ : St} (ok : σ.Ok) : (checkS σ).2.Ok := ⟨⟨ok.1.1, ok.1.2.1, Nat.zero_le _, ok.1.2.2.2⟩, ok.2⟩

theorem count_ok {σ : St} (ok : σ.Ok) (x : Int) : (countS σ x).2.Ok := if_ok (fun _ => ok) (fun _ => if_ok (fun _ => ok) (fun _ => if_ok (fun _ => ok) (fun _ => if_ok (fun _ => ok) (fun _ => if_ok (fun _ => ok) (fun _ => if_ok (fun _ => ok) (fun _ => if_ok (fun _ => ok) (fun _ => if_ok (fun _ => ok) (fun _ => if_ok (fun _ => ok) (fun _ => if_ok (fun _ => ok) (fun _ => if_ok (fun _ => ok) (fun _ => if_ok (fun _ => ok) (fun _ => ok))))))))))))
/-! ===== the class does them ===== -/
theorem OC.rv {μ : amM} {σ : St} {v w : Int} (h : CI σ μ) (e : v = w) : OC μ (some (v, μ)) (w, σ) := ⟨μ, by rw [e], h, same.rf⟩
theorem OM.rv {μ : amM} {σ : St} {v w : Int} (h : MI σ μ) (e : v = w) : OM μ (some (v, μ)) (w, σ) := ⟨μ, by rw [e], h, same.rf⟩
def gLw (c i : Nat) : Bool := Nat.beq c 2 && (Nat.beq i 11 || Nat.beq i 12)
theorem TC.law {t : Tn} {μ μ' : amM} (h : TC 2 t μ) (hs : same gLw μ μ') {a b : Int} (h1 : μ' 2 11 = a) (h2 : μ' 2 12 = b) : TC 2 (t.law a b) μ' := by
  obtain ⟨⟨a1, a2, a3, a4, a5, a6⟩, b1, c1⟩ := h
  refine ⟨⟨(hs _ _ rfl).trans a1, (hs _ _ rfl).trans a2, (hs _ _ rfl).trans a3, (hs _ _ rfl).trans a4, h1, h2⟩, fun l hl => ?_, fun l hl => ⟨(hs _ _ rfl).trans (c1 l hl).1, fun i hi => (hs _ _ rfl).trans ((c1 l hl).2 i hi)⟩⟩
  show μ' 3 l = _ ∧ (_ → μ' 4 l = _ ∧ μ' 5 l = _)
  rw [hs _ _ rfl, hs _ _ rfl, hs _ _ rfl]
  exact b1 l hl
theorem rule_c (d : Nat) {σ : St} {μ : amM} (h : CI σ μ) (w v : Int) : OC μ (RD cr2 (d + 20) 100 [0, w, v] μ) (ruleS σ w v) := by
  have no1 : OC μ (At cr2 (d + 19) 100 1 [] [0, 0, 0, 0, 0] μ) (σ.no 1) := by
    rw [B100_1]
    exact (OC.no _ h (by decide) (by decide)).bi (fun _ _ => rfl)
  have no3 : OC μ (At cr2 (d + 19) 100 4 [] [0, 0, 0, 0, 0] μ) (σ.no 3) := by
    rw [B100_4]
    exact (OC.no _ h (by decide) (by decide)).bi (fun _ _ => rfl)
  have e11 := h.tc.1.2.2.2.2.1
  have e12 := h.tc.1.2.2.2.2.2
  unfold ruleS
  rw [M100, isWithin_e, bnd_s, ifb]
  refine OC.cd (fun hw => ?_) (fun _ => no1)
  rw [isWithin_e, bnd_s, ifb]
  refine OC.cd (fun hv => ?_) (fun _ => no1)
  by_cases q : w = 0
  · rw [if_pos q, B100_2, if_pos q, e12]
    by_cases q2 : σ.t.most < v
    · rw [if_pos q2, if_pos q2]; exact no3
    · rw [if_neg q2, if_neg q2, B100_5, if_pos q, e11, B100_7, if_pos q]
      rw [wf_e, B100_9]
      exact ⟨_, rfl, h.setT (same.rf.up rfl) (h.tc.law (same.rf.up rfl) (up_eq _ _ _ _) e12), same.rf.up rfl⟩
  · rw [if_neg q, B100_2, if_neg q, B100_3, e11]
    by_cases q2 : v < σ.t.least
    · rw [if_pos q2, if_pos q2]; exact no3
    · rw [if_neg q2, if_neg q2, B100_5, if_neg q, B100_6, e12, B100_7, if_neg q, B100_8]
      rw [wf_e, B100_9]
      exact ⟨_, rfl, h.setT (same.rf.up rfl) (h.tc.law (same.rf.up rfl) e11 (up_eq _ _ _ _)), same.rf.up rfl⟩
theorem SL_3 (lot : Nat) : SL lot 3 lot = true := by
  unfold SL
  rw [Nat.beq_refl lot]; rfl
theorem SL_4 (lot : Nat) : SL lot 4 lot = true := by
  unfold SL
  rw [Nat.beq_refl lot]; rfl
theorem SL_5 (lot : Nat) : SL lot 5 lot = true := by
  unfold SL
  rw [Nat.beq_refl lot]; rfl
theorem pull_c (d : Nat) {σ : St} {μ : amM} (ok : σ.Ok) (h : CI σ μ) (x : Int) : OC μ (RD cr2 (d + 20) 102 [0, x] μ) (pullS σ x) := by
  have h64 := ok.t.le.2
  unfold pullS
  rw [M102, isLot_e _ ok h, bnd_s, ifb]
  refine OC.cd (fun hl => ?_) (fun _ => (OC.no _ h (by decide) (by decide)).bi (fun _ _ => rfl))
  obtain ⟨n, rfl, hn⟩ := isLot_n hl
  rw [B102_1, isEmpty_e _ ok h hn, bnd_s, ifb, Int.toNat_natCast]
  refine OC.cd (fun _ => (OC.no _ h (by decide) (by decide)).bi (fun _ _ => rfl)) (fun he => ?_)
  have ne : σ.t.kind n ≠ -1 := fun q => by rw [q] at he; cases he
  have q := (h.tc.2.1 n hn).2 ne
  rw [B102_2, wr_p (by omega) (by omega), Int.toNat_natCast, rd_p (by omega) (by omega), Int.toNat_natCast, up_row _ _ _ _ (by decide), q.2, numberOf_e _ _ ((ok.t.2 n hn).2 ne).2.2, bnd_s]
  have hs : same (SL n) μ (up μ 3 n (-1)) := same.rf.up (SL_3 n)
  exact ⟨_, rfl, h.setT (SL_T n hs) (h.tc.put hs (up_eq _ _ _ _) (fun q => absurd rfl q)), SL_F n hs⟩
theorem become_c (d : Nat) {σ : St} {μ : amM} (ok : σ.Ok) (h : CI σ μ) (x y : Int) : OC μ (RD cr2 (d + 20) 104 [0, x, y] μ) (becomeS σ x y) := by
  have h64 := ok.t.le.2
  have no1 : OC μ (At cr2 (d + 19) 104 1 [] [0, 0, 0, 0] μ) (σ.no 1) := by
    rw [B104_1]
    exact (OC.no _ h (by decide) (by decide)).bi (fun _ _ => rfl)
  unfold becomeS
  rw [M104, isLot_e _ ok h, bnd_s, ifb]
  refine OC.cd (fun hl => ?_) (fun _ => no1)
  obtain ⟨n, rfl, hn⟩ := isLot_n hl
  rw [isKm_e, bnd_s, ifb]
  refine OC.cd (fun hy => ?_) (fun _ => no1)
  rw [B104_2, isEmpty_e _ ok h hn, bnd_s, ifb, Int.toNat_natCast]
  refine OC.cd (fun _ => (OC.no _ h (by decide) (by decide)).bi (fun _ _ => rfl)) (fun he => ?_)
  have ne : σ.t.kind n ≠ -1 := fun q => by rw [q] at he; cases he
  have q := (h.tc.2.1 n hn).2 ne
  obtain ⟨b, rfl, hb⟩ := wi_n hy
  rw [B104_3, rd_p (by omega) (by omega), wr_p (by omega) (by omega), wr_p (by omega) (by omega), Int.toNat_natCast, (h.tc.2.1 n hn).1, Int.tdiv_eq_ediv_of_nonneg (by omega), Int.tmod_eq_emod_of_nonneg (by omega), w32_i (by omega) (by omega)]
  have hs : same (SL n) μ (up (up μ 3 n ((b : Int) / 10)) 4 n ((b : Int) % 10)) := (same.rf.up (SL_3 n)).up (SL_4 n)
  exact ⟨_, rfl, h.setT (SL_T n hs) (h.tc.put hs (show up μ 3 n ((b : Int) / 10) 3 n = (b : Int) / 10 from up_eq _ _ _ _) (fun _ => ⟨up_eq _ _ _ _, q.2⟩)), SL_F n hs⟩
def und (k o : Int) : Bool := o == 0 || o == k || o == abv k
theorem under_e (d : Nat) (μ : amM) {k o : Int} (hk : 0 ≤ k ∧ k ≤ 6) (ho : 0 ≤ o ∧ o ≤ 6) : RD cr2 (d + 1) 85 [k, o] μ = some (bi (und k o), μ) := by
  have top : ∀ (j : Int), j < 5 → 0 ≤ j → At cr2 d 85 1 [] [0, o, 0, j] μ = some (bi (o == 0), μ) := by
    intro j hj h0
    rw [B85_1, if_pos (by omega), if_neg (by decide)]
    by_cases q : o = 0
    · rw [if_pos q.symm, q]; rfl
    · rw [if_neg (fun w => q w.symm), B85_2]
      show At cr2 d 85 1 [] [0, o, -1, w32 (j + 1)] μ = _
      rw [w32_i (by omega) (by omega), B85_1, if_pos (by omega), if_pos (by decide), B85_3, beq_false_of_ne q]; rfl
  have mid : ∀ (j a : Int), j < 4 → 0 ≤ j → a = 1 ∨ a = 2 ∨ a = 3 → At cr2 d 85 1 [] [0, o, a, j] μ = some (bi (o == 0 || o == a), μ) := by
    intro j a hj h0 ha
    rw [B85_1, if_pos (by omega), if_neg (by omega)]
    by_cases q : o = a
    · rw [if_pos q.symm, q, beq_self_eq_true, Bool.or_true]; rfl
    · rw [if_neg (fun w => q w.symm), B85_2, beq_false_of_ne q, Bool.or_false]
      rcases ha with rfl | rfl | rfl
      · show At cr2 d 85 1 [] [0, o, 0, w32 (j + 1)] μ = _
        rw [w32_i (by omega) (by omega)]
        exact top _ (by omega) (by omega)
      · show At cr2 d 85 1 [] [0, o, 0, w32 (j + 1)] μ = _
        rw [w32_i (by omega) (by omega)]
        exact top _ (by omega) (by omega)
      · show At cr2 d 85 1 [] [0, o, 0, w32 (j + 1)] μ = _
        rw [w32_i (by omega) (by omega)]
        exact top _ (by omega) (by omega)
  rw [M85]
  unfold und abv
  have hc : k = 0 ∨ k = 1 ∨ k = 2 ∨ k = 3 ∨ k = 4 ∨ k = 5 ∨ k = 6 := by omega
  have low : ∀ a : Int, a = 4 ∨ a = 5 ∨ a = 6 → At cr2 d 85 1 [] [0, o, a, 0] μ = some (bi (o == 0 || o == a || o == a - 3), μ) := by
    intro a ha
    rw [B85_1, if_pos (by omega), if_neg (by omega)]
    by_cases q : o = a
    · rw [if_pos q.symm, q, beq_self_eq_true, Bool.or_true]; rfl
    · rw [if_neg (fun w => q w.symm), B85_2, beq_false_of_ne q, Bool.or_false]
      rcases ha with rfl | rfl | rfl
      · exact mid 1 1 (by decide) (by decide) (by decide)
      · exact mid 1 2 (by decide) (by decide) (by decide)
      · exact mid 1 3 (by decide) (by decide) (by decide)
  rcases hc with rfl | rfl | rfl | rfl | rfl | rfl | rfl
  · rw [top 0 (by decide) (by decide), if_pos (by decide), Bool.or_self, Bool.or_self]
  · rw [mid 0 1 (by decide) (by decide) (by decide), if_pos (by decide), Bool.or_right_comm, Bool.or_self]
  · rw [mid 0 2 (by decide) (by decide) (by decide), if_pos (by decide), Bool.or_right_comm, Bool.or_self]
  · rw [mid 0 3 (by decide) (by decide) (by decide), if_pos (by decide), Bool.or_right_comm, Bool.or_self]
  · rw [low 4 (by decide), if_neg (by decide)]
  · rw [low 5 (by decide), if_neg (by decide)]
  · rw [low 6 (by decide), if_neg (by decide)]
theorem as_c (d : Nat) {σ : St} {μ : amM} (ok : σ.Ok) (h : CI σ μ) (x y : Int) : OC μ (RD cr2 (d + 20) 105 [0, x, y] μ) (asS σ x y) := by
  have h64 := ok.t.le.2
  have no1 : OC μ (At cr2 (d + 19) 105 1 [] [0, 0, 0] μ) (σ.no 1) := by
    rw [B105_1]
    exact (OC.no _ h (by decide) (by decide)).bi (fun _ _ => rfl)
  unfold asS
  rw [M105, isLot_e _ ok h, bnd_s, ifb]
  refine OC.cd (fun hl => ?_) (fun _ => no1)
  obtain ⟨n, rfl, hn⟩ := isLot_n hl
  rw [isWithin_e, bnd_s, ifb]
  refine OC.cd (fun hy => ?_) (fun _ => no1)
  rw [B105_2, isEmpty_e _ ok h hn, bnd_s, ifb, Int.toNat_natCast]
  refine OC.cd (fun _ => (OC.no _ h (by decide) (by decide)).bi (fun _ _ => rfl)) (fun he => ?_)
  have ne : σ.t.kind n ≠ -1 := fun q => by rw [q] at he; cases he
  have q := (h.tc.2.1 n hn).2 ne
  have hk := (ok.t.2 n hn).1
  obtain ⟨b, rfl, hb⟩ := wi_n hy
  rw [B105_3, rd_p (by omega) (by omega), Int.toNat_natCast, (h.tc.2.1 n hn).1, under_e _ _ (by omega) (by omega), bnd_s, ifb]
  refine OC.cd (fun _ => ?_) (fun _ => (OC.no _ h (by decide) (by decide)).bi (fun _ _ => rfl))
  rw [B105_4, rd_p (by omega) (by omega), Int.toNat_natCast, q.1]
  exact OC.rt h
theorem alike_c (d : Nat) {σ : St} {μ : amM} (ok : σ.Ok) (h : CI σ μ) (x y : Int) : OC μ (RD cr2 (d + 20) 107 [0, x, y] μ) (alikeS σ x y) := by
  have h64 := ok.t.le.2
  have no1 : OC μ (At cr2 (d + 19) 107 1 [] [0, 0, 0] μ) (σ.no 1) := by
    rw [B107_1]
    exact (OC.no _ h (by decide) (by decide)).bi (fun _ _ => rfl)
  have no2 : OC μ (At cr2 (d + 19) 107 3 [] [0, 0, 0] μ) (σ.no 2) := by
    rw [B107_3]
    exact (OC.no _ h (by decide) (by decide)).bi (fun _ _ => rfl)
  unfold alikeS
  rw [M107, isLot_e _ ok h, bnd_s, ifb]
  refine OC.cd (fun hl => ?_) (fun _ => no1)
  obtain ⟨n, rfl, hn⟩ := isLot_n hl
  rw [isLot_e _ ok h, bnd_s, ifb]
  refine OC.cd (fun hl2 => ?_) (fun _ => no1)
  obtain ⟨m, rfl, hm⟩ := isLot_n hl2
  rw [B107_2, isEmpty_e _ ok h hn, bnd_s, ifb, Int.toNat_natCast, Int.toNat_natCast]
  refine OC.cd (fun _ => no2) (fun he => ?_)
  rw [isEmpty_e _ ok h hm, bnd_s, ifb]
  refine OC.cd (fun _ => no2) (fun he2 => ?_)
  have ne : σ.t.kind n ≠ -1 := fun q => by rw [q] at he; cases he
  have ne2 : σ.t.kind m ≠ -1 := fun q => by rw [q] at he2; cases he2
  rw [B107_4, rd_p (by omega) (by omega), rd_p (by omega) (by omega), Int.toNat_natCast, Int.toNat_natCast, ((h.tc.2.1 n hn).2 ne).2, ((h.tc.2.1 m hm).2 ne2).2, alikeOf_e _ _ ((ok.t.2 n hn).2 ne).2.2 ((ok.t.2 m hm).2 ne2).2.2, bnd_s]
  exact OC.rt h
theorem may_c (d : Nat) {σ : St} {μ : amM} (ok : σ.Ok) (h : CI σ μ) (x : Int) {y : Int} (hy : i32 y) : OC μ (RD cr2 (d + 20) 108 [0, x, y] μ) (mayS σ x y) := by
  have no1 : OC μ (At cr2 (d + 19) 108 1 [] [0, 0, 0, 0] μ) (σ.no 1) := by
    rw [B108_1]
    exact (OC.no _ h (by decide) (by decide)).bi (fun _ _ => rfl)
  unfold mayS
  rw [M108, isLot_e _ ok h, bnd_s, ifb]
  refine OC.cd (fun hl => ?_) (fun _ => no1)
  obtain ⟨n, rfl, hn⟩ := isLot_n hl
  rw [Int.toNat_natCast]
  by_cases q1 : y < -1
  · rw [if_pos q1, if_pos q1]; exact no1
  · rw [if_neg q1, if_neg q1, B108_2]
    by_cases q2 : y = -1
    · rw [if_pos q2, if_pos q2, howManyMay_e _ ok.t h.tc hn, bnd_s]
      exact OC.rt h
    · rw [if_neg q2, if_neg q2, B108_3, standerAt_e _ ok.t h.tc hn (by omega) hy.2, bnd_s]
      by_cases q3 : sel (fun h => σ.t.may n (hc h)) (-1) 81 0 y = -1
      · rw [if_pos q3, if_pos q3]
        exact (OC.no _ h (by decide) (by decide)).bi (fun _ _ => by rw [B108_5])
      · rw [if_neg q3, if_neg q3, B108_4, B108_5]
        exact OC.rt h
theorem told_c (d : Nat) {σ : St} {μ : amM} (h : CI σ μ) (x : Int) : OC μ (RD cr2 (d + 20) 140 [0, x] μ) (toldS σ x) := by
  unfold toldS
  rw [M140, isWithin_e, bnd_s, ifb]
  refine OC.cd (fun hl => ?_) (fun _ => ?_)
  · rw [Bool.and_eq_true] at hl
    have h1 := of_decide_eq_true hl.1
    have h2 := of_decide_eq_true hl.2
    rw [rd_p (by omega) (by omega), B140_2, h.2.2.2.1 x.toNat (by omega)]
    exact OC.rt h
  · rw [B140_1]
    exact (OC.no _ h (by decide) (by decide)).bi (fun _ _ => by rw [B140_2])
theorem seed_c (d : Nat) {σ : St} {μ : amM} (h : CI σ μ) (x : Int) : OC μ (RD cr2 (d + 20) 127 [0, x] μ) (seedS σ x) := by
  have q := h.1.2.2.2.2
  rw [M127]
  rw [wf_e, q.2.2]
  exact ⟨up μ 1 8 x, rfl, h.setY (same.rf.up rfl) ⟨q.1, q.2.1, up_eq _ _ _ _⟩, same.rf.up rfl⟩
theorem tell_c (d : Nat) {σ : St} {μ : amM} (ok : σ.Ok) (h : CI σ μ) (x : Int) : OC μ (RD cr2 (d + 20) 137 [0, x] μ) (tellS σ x) := by
  have h20 := ok.1.2.2.1
  have e := h.1.2.2.1.1
  have e2 := h.1.2.2.1.2
  unfold tellS
  rw [M137, e]
  by_cases q : σ.k.nw < 20
  · rw [if_pos (by omega), if_pos q, B137_1, e, wr_p (by omega) (by omega), Int.toNat_natCast]
    rw [wf_e, up_eq, show up μ 12 σ.k.nw x 1 5 = (σ.k.nw : Int) from e, w32_i (by omega) (by omega)]
    refine ⟨up (up μ 12 σ.k.nw x) 1 5 ((σ.k.nw : Int) + 1), rfl, h.setW ((same.rf.up rfl).up rfl) ⟨rfl, fun i hi => ?_⟩, (same.rf.up rfl).up rfl⟩
    show up μ 12 σ.k.nw x 12 i = fset σ.k.wt σ.k.nw x i
    rw [up_if]
    unfold fset
    by_cases q3 : i = σ.k.nw
    · rw [if_pos q3, if_pos q3]
    · rw [if_neg q3, if_neg q3]
      exact e2 i (by omega)
  · rw [if_neg (by omega), if_neg q]
    exact (OC.no _ h (by decide) (by decide)).bi (fun _ _ => rfl)
theorem check_loop (d : Nat) {σ : St} {μ : amM} (ok : σ.Ok) (ht : TC 2 σ.t μ) (hw : ∀ i, i < σ.k.nw → μ 12 i = σ.k.wt i) : ∀ n i, i + n = σ.k.nw → At cr2 (d + 19) 138 1 [] [0, (σ.k.nw : Int), (i : Int)] μ = some (chk σ.t σ.k.wt n i, μ)
  | 0, i, hi => by
    rw [B138_1, if_neg (by omega), B138_4]
    rfl
  | n + 1, i, hi => by
    have h20 := ok.1.2.2.1
    have h64 := ok.t.le.2
    have ih := check_loop d ok ht hw n (i + 1) (by omega)
    rw [B138_1, if_pos (by omega), ht.1.2.2.2.1]
    unfold chk
    by_cases q : i < σ.t.lots
    · rw [if_pos (by omega), howManyMay_e _ ok.t ht q, bnd_s, rd_p (by omega) (by omega), Int.toNat_natCast, hw i (by omega)]
      by_cases q2 : ((cntB (fun h => σ.t.may i (hc h)) 81 : Nat) : Int) = σ.k.wt i
      · rw [if_pos q2, if_pos ⟨q, q2⟩, B138_3, w32_i (by omega) (by omega)]
        exact ih
      · rw [if_neg q2, if_neg (fun w => q2 w.2), B138_2, w32_i (by omega) (by omega)]
    · rw [if_neg (by omega), if_neg (fun w => q w.1), B138_2, w32_i (by omega) (by omega)]
theorem check_c (d : Nat) {σ : St} {μ : amM} (ok : σ.Ok) (h : CI σ μ) : OC μ (RD cr2 (d + 20) 138 [0] μ) (checkS σ) := by
  have e := h.1.2.2.1.1
  have e2 := h.1.2.2.1.2
  have h1 : CI (σ.setW 0 σ.k.wt) (up μ 1 5 0) := h.setW (same.rf.up rfl) ⟨rfl, fun i hi => absurd hi (Nat.not_lt_zero i)⟩
  rw [M138]
  rw [wf_e, e]
  exact ⟨_, check_loop d ok h1.tc e2 _ 0 (Nat.zero_add _), h1, same.rf.up rfl⟩
theorem trace_c (d : Nat) {σ : St} {μ : amM} (ok : σ.Ok) (h : CI σ μ) (x : Int) : OC μ (RD cr2 (d + 20) 129 [0, x] μ) (traceS σ x) := by
  have h40 := ok.2.2.2
  have q := h.2.2.2.2.2.1
  unfold traceS
  rw [M129, q.1, w32_i (by omega) (by omega), isWithin_e, bnd_s, ifb]
  refine OC.cd (fun hl => ?_) (fun _ => ?_)
  · obtain ⟨n, rfl, hn⟩ := wi_n hl
    rw [rd_p (by omega) (by omega), B129_2, Int.toNat_natCast, q.2 n (by omega)]
    exact OC.rt h
  · rw [B129_1]
    exact (OC.no _ h (by decide) (by decide)).bi (fun _ _ => by rw [B129_2])

theorem count_c (d : Nat) {σ : St} {μ : amM} (ok : σ.Ok) (h : CI σ μ) (x : Int) : OC μ (RD cr2 (d + 20) 139 [0, x] μ) (countS σ x) := by
  unfold countS
  rw [M139]
  by_cases q0 : x = 0
  · rw [if_pos q0, if_pos q0, B139_1]
    exact OC.rv h h.tc.1.1
  rw [if_neg q0, if_neg q0]
  by_cases q1 : x = 1
  · rw [if_pos q1, if_pos q1, B139_2]
    exact OC.rv h h.tc.1.2.1
  rw [if_neg q1, if_neg q1]
  by_cases q2 : x = 2
  · rw [if_pos q2, if_pos q2, B139_3]
    exact OC.rv h h.tc.1.2.2.1
  rw [if_neg q2, if_neg q2]
  by_cases q3 : x = 3
  · rw [if_pos q3, if_pos q3, B139_4]
    exact OC.rv h h.tc.1.2.2.2.2.1
  rw [if_neg q3, if_neg q3]
  by_cases q4 : x = 4
  · rw [if_pos q4, if_pos q4, B139_5]
    exact OC.rv h h.tc.1.2.2.2.2.2
  rw [if_neg q4, if_neg q4]
  by_cases q5 : x = 5
  · rw [if_pos q5, if_pos q5, B139_6, houses_e _ ok.t h.tc, bnd_s]
    exact OC.rt h
  rw [if_neg q5, if_neg q5]
  by_cases q6 : x = 6
  · rw [if_pos q6, if_pos q6, B139_7]
    exact OC.rv h h.1.2.2.2.2.1
  rw [if_neg q6, if_neg q6]
  by_cases q7 : x = 7
  · rw [if_pos q7, if_pos q7, B139_8]
    exact OC.rv h h.1.2.2.2.2.2.1
  rw [if_neg q7, if_neg q7]
  by_cases q8 : x = 8
  · rw [if_pos q8, if_pos q8, B139_9]
    exact OC.rv h h.1.2.1.1
  rw [if_neg q8, if_neg q8]
  by_cases q9 : x = 9
  · rw [if_pos q9, if_pos q9, B139_10]
    exact OC.rv h h.1.2.2.1.1
  rw [if_neg q9, if_neg q9]
  by_cases q10 : x = 10
  · rw [if_pos q10, if_pos q10, B139_11]
    exact OC.rv h h.2.2.2.2.2.1.1
  rw [if_neg q10, if_neg q10]
  by_cases q11 : x = 11
  · rw [if_pos q11, if_pos q11, B139_12]
    exact OC.rv h h.1.2.2.2.2.2.2
  rw [if_neg q11, if_neg q11]
  rw [B139_13]
  exact (OC.no _ h (by decide) (by decide)).bi (fun _ _ => rfl)
