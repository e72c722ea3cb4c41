/-! ===== what a storm harms ===== -/
theorem cpy_p {μ : amM} {x i y j n : Int} {f : amM → amR} (h1 : amTg x = 20 ∧ amTg y = 20) (h2 : 0 ≤ i ∧ 0 ≤ j ∧ 0 ≤ n ∧ i + n ≤ amLn x ∧ j + n ≤ amLn y) : amCpy μ x i y j n f = f (upr μ y.toNat (fun k => if j.toNat ≤ k ∧ k < j.toNat + n.toNat then μ x.toNat (i.toNat + (k - j.toNat)) else μ y.toNat k)) := by
  unfold amCpy
  rw [if_pos h1, if_pos h2]
theorem upr_eq (μ : amM) (c : Nat) (g : Nat → Int) (i : Nat) : upr μ c g c i = g i := by
  unfold upr
  rw [if_pos rfl]
theorem upr_ne (μ : amM) (c : Nat) (g : Nat → Int) {c' : Nat} (h : c' ≠ c) : upr μ c g c' = μ c' := by
  unfold upr
  rw [if_neg h]
theorem same.upr {S : Nat → Nat → Bool} {μ μ1 : amM} {c : Nat} {g : Nat → Int} (h : same S μ μ1) (hs : ∀ i, S c i = true) : same S μ (upr μ1 c g) := by
  intro c' i' h'
  by_cases e : c' = c
  · subst e
    rw [hs i'] at h'
    cases h'
  · rw [upr_ne _ _ _ e]
    exact h c' i' h'
def S89 (c _ : Nat) : Bool := Nat.beq c 8 || Nat.beq c 9
def S589 (c _ : Nat) : Bool := Nat.beq c 5 || (Nat.beq c 8 || Nat.beq c 9)
theorem TC.cod {t : Tn} {μ μ' : amM} (ok : t.Ok) (h : TC 2 t μ) (hs : same S589 μ μ') (h5 : ∀ i, i < 64 → μ' 5 i = μ 5 i) : TC 2 t μ' := by
  have h64 := ok.le.2
  obtain ⟨⟨a1, a2, a3, a4, a5, a6⟩, b1, c1⟩ := h
  refine ⟨⟨(hs _ _ rfl).trans a1, (hs _ _ rfl).trans a2, (hs _ _ rfl).trans a3, (hs _ _ rfl).trans a4, (hs _ _ rfl).trans a5, (hs _ _ rfl).trans a6⟩, fun l hl => ?_, fun l hl => ⟨(hs _ _ rfl).trans (c1 l hl).1, fun i hi => (hs _ _ rfl).trans ((c1 l hl).2 i hi)⟩⟩
  show μ' 3 l = _ ∧ (_ → μ' 4 l = _ ∧ μ' 5 l = _)
  rw [hs _ _ rfl, hs _ _ rfl, h5 l (by omega)]
  exact b1 l hl
def Tn.harm (t : Tn) (k : Nat) (s : Int) : Int := ((t.blow k s).wl.length : Int)
theorem harm_e (d : Nat) {t : Tn} {μ : amM} (ok : t.Ok) (h : TC 2 t μ) {k : Nat} (hk : k < 4) (s : Int) : ∃ μ', RD cr2 (d + 6) 83 [2, (k : Int), s] μ = some (t.harm k s, μ') ∧ TC 2 t μ' ∧ same S589 μ μ' ∧ (∀ i, i < 64 → μ' 5 i = μ 5 i) := by
  have e1 : ∀ {μ : amM} {f : amM → amR}, amCpy μ 5 0 9 0 64 f = f (upr μ 9 (fun k => if 0 ≤ k ∧ k < 64 then μ 5 (0 + (k - 0)) else μ 9 k)) := fun {μ f} => cpy_p (x := 5) (y := 9) (i := 0) (j := 0) (n := 64) (by decide) (by decide)
  have e2 : ∀ {μ : amM} {f : amM → amR}, amCpy μ 9 0 5 0 64 f = f (upr μ 5 (fun k => if 0 ≤ k ∧ k < 64 then μ 9 (0 + (k - 0)) else μ 5 k)) := fun {μ f} => cpy_p (x := 9) (y := 5) (i := 0) (j := 0) (n := 64) (by decide) (by decide)
  have s1 : same S89 μ (upr μ 9 (fun k => if 0 ≤ k ∧ k < 64 then μ 5 (0 + (k - 0)) else μ 9 k)) := same.rf.upr (fun _ => rfl)
  have h1 : TC 2 t (upr μ 9 (fun k => if 0 ≤ k ∧ k < 64 then μ 5 (0 + (k - 0)) else μ 9 k)) := h.keep s1 (fun _ _ _ => rfl) (fun _ => rfl) (fun _ => rfl) (fun _ => rfl) (fun _ => rfl) (fun _ => rfl)
  obtain ⟨μ2, g1, g2, g3⟩ := blow_e (d + 2) ok h1 hk s
  obtain ⟨μ3, f1, f2, f3⟩ := listWrong_e d (blt_ok ok hk s t.lots) g2
  have q9 : ∀ i, i < 64 → μ3 9 i = μ 5 i := fun i hi => by
    rw [f3 _ _ rfl, g3 _ _ rfl, upr_eq, if_pos ⟨Nat.zero_le _, hi⟩, Nat.sub_zero, Nat.zero_add]
  have w : ∀ {S : Nat → Nat → Bool} {a b : amM}, same S a b → (∀ c i, S589 c i = false → S c i = false) → same S589 a b := fun h q => h.wide q
  have s2 : same S589 μ (upr μ3 5 (fun k => if 0 ≤ k ∧ k < 64 then μ3 9 (0 + (k - 0)) else μ3 5 k)) := by
    refine same.upr (((w s1 ?_).tr (w g3 ?_)).tr (w f3 ?_)) (fun _ => rfl)
    · intro c i q; exact (Bool.or_eq_false_iff.mp q).2
    · intro c i q; exact (Bool.or_eq_false_iff.mp q).1
    · intro c i q; exact (Bool.or_eq_false_iff.mp (Bool.or_eq_false_iff.mp q).2).1
  have q5 : ∀ i, i < 64 → upr μ3 5 (fun k => if 0 ≤ k ∧ k < 64 then μ3 9 (0 + (k - 0)) else μ3 5 k) 5 i = μ 5 i := fun i hi => by
    rw [upr_eq, if_pos ⟨Nat.zero_le _, hi⟩, Nat.sub_zero, Nat.zero_add, q9 i hi]
  refine ⟨_, ?_, h.cod ok s2 q5, s2, q5⟩
  rw [M83, e1, g1, bnd_s, f1, bnd_s, e2]
  rfl
theorem S589_T {μ μ' : amM} (h : same S589 μ μ') : same (or2 gT ScC) μ μ' := by
  refine h.wide (fun c i q => ?_)
  cases e : S589 c i with
  | false => rfl
  | true =>
    unfold S589 at e
    rw [Bool.or_eq_true, Bool.or_eq_true] at e
    rcases e with e | e | e
    · rw [Nat.eq_of_beq_eq_true e] at q; cases q
    · rw [Nat.eq_of_beq_eq_true e] at q; cases q
    · rw [Nat.eq_of_beq_eq_true e] at q; cases q
theorem S589_F {μ μ' : amM} (h : same S589 μ μ') : same FC μ μ' := by
  refine h.wide (fun c i q => ?_)
  cases e : S589 c i with
  | false => rfl
  | true =>
    unfold S589 at e
    rw [Bool.or_eq_true, Bool.or_eq_true] at e
    rcases e with e | e | e
    · rw [Nat.eq_of_beq_eq_true e] at q; cases q
    · rw [Nat.eq_of_beq_eq_true e] at q; cases q
    · rw [Nat.eq_of_beq_eq_true e] at q; cases q
def harmS (σ : St) (k s : Int) : Int × St := bif isMS k s then (σ.t.harm k.toNat s, σ) else σ.no 1
theorem harm_ok {σ : St} (ok : σ.Ok) (k s : Int) : (harmS σ k s).2.Ok := cd_ok (fun _ => ok) (fun _ => ok)
theorem harm_c (d : Nat) {σ : St} {μ : amM} (ok : σ.Ok) (h : CI σ μ) (k s : Int) : OC μ (RD cr2 (d + 20) 121 [0, k, s] μ) (harmS σ k s) := by
  unfold harmS
  rw [M121, isMS_e, bnd_s, ifb]
  refine OC.cd (fun q => ?_) (fun _ => (OC.no _ h (by decide) (by decide)).bi (fun _ _ => rfl))
  obtain ⟨a, b, rfl, rfl, ha, hb⟩ := isMS_n q
  obtain ⟨μ', g1, g2, g3, -⟩ := harm_e (d + 13) ok.t h.tc ha (b : Int)
  rw [B121_1, g1, bnd_s, Int.toNat_natCast]
  exact ⟨μ', rfl, h.setT (t := σ.t) (S589_T g3) g2, S589_F g3⟩
def wst (t : Tn) : Nat → Nat → Int → Int → Int
  | 0, _, best, _ => best
  | n + 1, i, best, most => if most < t.harm (i / 3) ((i % 3 : Nat) : Int) then wst t n (i + 1) i (t.harm (i / 3) ((i % 3 : Nat) : Int)) else wst t n (i + 1) best most
def worstS (σ : St) : Int × St := (wst σ.t 12 0 0 (-1), σ)
theorem worst_loop (d : Nat) {t : Tn} (ok : t.Ok) : ∀ (n i : Nat) (best most : Int) (μ : amM), i + n = 12 → TC 2 t μ → ∃ μ', At cr2 (d + 6) 122 1 [] [0, best, most, (i : Int), 0] μ = some (wst t n i best most, μ') ∧ TC 2 t μ' ∧ same S589 μ μ'
  | 0, i, best, most, μ, hi, h => by
    rw [B122_1, if_neg (by omega), B122_3]
    exact ⟨μ, rfl, h, same.rf⟩
  | n + 1, i, best, most, μ, hi, h => by
    obtain ⟨μ1, g1, g2, g3, -⟩ := harm_e d ok h (k := i / 3) (by omega) ((i % 3 : Nat) : Int)
    have e1 : w32 ((i : Int).tdiv 3) = ((i / 3 : Nat) : Int) := by
      rw [Int.tdiv_eq_ediv_of_nonneg (by omega), w32_i (by omega) (by omega)]; rfl
    have e2 : (i : Int).tmod 3 = ((i % 3 : Nat) : Int) := by
      rw [Int.tmod_eq_emod_of_nonneg (by omega)]; rfl
    rw [B122_1, if_pos (by omega), e1, e2, g1, bnd_s]
    unfold wst
    by_cases q : most < t.harm (i / 3) ((i % 3 : Nat) : Int)
    · rw [if_pos q, if_pos q, B122_2, w32_i (by omega) (by omega)]
      obtain ⟨μ2, f1, f2, f3⟩ := worst_loop d ok n (i + 1) i (t.harm (i / 3) ((i % 3 : Nat) : Int)) μ1 (by omega) g2
      exact ⟨μ2, f1, f2, g3.tr f3⟩
    · rw [if_neg q, if_neg q, B122_2, w32_i (by omega) (by omega)]
      obtain ⟨μ2, f1, f2, f3⟩ := worst_loop d ok n (i + 1) best most μ1 (by omega) g2
      exact ⟨μ2, f1, f2, g3.tr f3⟩
theorem worst_c (d : Nat) {σ : St} {μ : amM} (ok : σ.Ok) (h : CI σ μ) : OC μ (RD cr2 (d + 20) 122 [0] μ) (worstS σ) := by
  obtain ⟨μ', g1, g2, g3⟩ := worst_loop (d + 13) ok.t 12 0 0 (-1) μ rfl h.tc
  rw [M122]
  exact ⟨μ', g1, h.setT (t := σ.t) (S589_T g3) g2, S589_F g3⟩
/-! the reference -/
def S87 (c _ : Nat) : Bool := Nat.beq c 87
theorem keepMarks_loop (d : Nat) (ν : amM) : ∀ (n i : Nat) (μ : amM), i + n = 256 → same S87 ν μ → (∀ j, j < i → μ 87 j = ν 72 (148 + j)) → ∃ μ', At cr2 d 228 1 [] [71, (i : Int)] μ = some (0, μ') ∧ same S87 ν μ' ∧ ∀ j, j < 256 → μ' 87 j = ν 72 (148 + j)
  | 0, i, μ, hi, hs, hq => by
    have hi : i = 256 := by omega
    subst hi
    rw [B228_1, if_neg (by omega), B228_2]
    exact ⟨μ, rfl, hs, hq⟩
  | n + 1, i, μ, hi, hs, hq => by
    rw [B228_1, if_pos (by omega), w32_i (x := 148 + (i : Int)) (by omega) (by omega), rd_p (by omega) (by omega), wr_p (by omega) (by omega), w32_i (by omega) (by omega), show ((148 : Int) + i).toNat = 148 + i by omega, Int.toNat_natCast]
    refine keepMarks_loop d ν n (i + 1) _ (by omega) (hs.up rfl) (fun j hj => ?_)
    rw [up_if]
    by_cases e : j = i
    · rw [if_pos e, e]; exact hs _ _ rfl
    · rw [if_neg e]; exact hq j (by omega)
theorem putMarks_loop (d : Nat) (ν : amM) : ∀ (n i : Nat) (μ : amM), i + n = 256 → same T148 ν μ → (∀ j, j < 256 → ν 87 j = μ 87 j) → (∀ j, j < i → μ 72 (148 + j) = ν 87 j) → ∃ μ', At cr2 d 229 1 [] [71, (i : Int)] μ = some (0, μ') ∧ same T148 ν μ' ∧ ∀ j, j < 256 → μ' 72 (148 + j) = ν 87 j
  | 0, i, μ, hi, hs, h87, hq => by
    have hi : i = 256 := by omega
    subst hi
    rw [B229_1, if_neg (by omega), B229_2]
    exact ⟨μ, rfl, hs, hq⟩
  | n + 1, i, μ, hi, hs, h87, hq => by
    rw [B229_1, if_pos (by omega), w32_i (x := 148 + (i : Int)) (by omega) (by omega), rd_p (by omega) (by omega), wr_p (by omega) (by omega), w32_i (by omega) (by omega), show ((148 : Int) + i).toNat = 148 + i by omega, Int.toNat_natCast]
    refine putMarks_loop d ν n (i + 1) _ (by omega) (hs.up (T148_t (by omega) (by omega))) (fun j hj => h87 j hj) (fun j hj => ?_)
    rw [up_if]
    by_cases e : j = i
    · rw [if_pos (by omega), e]; exact (h87 i (by omega)).symm
    · rw [if_neg (by omega)]; exact hq j (by omega)
def S0M (c i : Nat) : Bool := SP c i || S71w c i || S87 c i
theorem mHarm_e (d : Nat) {t : Tn} {μ : amM} (ok : t.Ok) (h : TM 72 t μ) {k : Nat} (hk : k < 4) (s : Int) : ∃ μ', RD cr2 (d + 6) 232 [71, (k : Int), s] μ = some (t.harm k s, μ') ∧ same S0M μ μ' := by
  obtain ⟨μ1, a1, a2, a3⟩ := keepMarks_loop (d + 4) μ 256 0 μ rfl same.rf (fun j hj => absurd hj (Nat.not_lt_zero j))
  have h1 := h.keep a2 (fun _ => rfl)
  obtain ⟨μ2, b1, b2, b3⟩ := takes_e (d + 2) ok h1 hk s
  have hok := blt_ok ok hk s t.lots
  obtain ⟨μ3, c1, c2, c3⟩ := findPairs_e (d + 3) hok b2
  have b2' := b2.keep c3 (fun _ => rfl)
  obtain ⟨μ4, e1, e2, e3⟩ := findWrong_e (d + 1) hok b2' c2
  obtain ⟨μ5, f1, f2, f3⟩ := putMarks_loop (d + 4) μ4 256 0 μ4 rfl same.rf (fun _ _ => rfl) (fun j hj => absurd hj (Nat.not_lt_zero j))
  have e228 : RD cr2 (d + 5) 228 [71] μ = some (0, μ1) := by rw [M228]; exact a1
  have e229 : RD cr2 (d + 5) 229 [71] μ4 = some (0, μ5) := by rw [M229]; exact f1
  refine ⟨μ5, ?_, fun c i q => ?_⟩
  · rw [M232, e228, bnd_s, b1, bnd_s, c1, bnd_s, e1, bnd_s, e229, bnd_s, f2 _ _ rfl, e2.1]
    rfl
  · have q' := Bool.or_eq_false_iff.mp q
    have q'' := Bool.or_eq_false_iff.mp q'.1
    cases e : T148 c i with
    | false => rw [f2 _ _ e, e3 _ _ q''.2, c3 _ _ q''.1, b3 _ _ e, a2 _ _ q'.2]
    | true =>
      have e' := e
      unfold T148 at e'
      rw [Bool.and_eq_true, Bool.and_eq_true] at e'
      have g0 := Nat.eq_of_beq_eq_true e'.1
      have g1 := Nat.le_of_ble_eq_true e'.2.1
      have g2 := Nat.le_of_ble_eq_true e'.2.2
      subst g0
      have g3 := f3 (i - 148) (by omega)
      have g4 := a3 (i - 148) (by omega)
      rw [show 148 + (i - 148) = i by omega] at g3 g4
      rw [g3, e3 _ _ rfl, c3 _ _ rfl, b3 _ _ rfl, g4]
theorem imp_of {S T : Nat → Nat → Bool} (h : ∀ {μ μ' : amM}, same S μ μ' → same T μ μ') (c i : Nat) (q : T c i = false) : S c i = false := by
  have k := h (μ := fun _ _ => (0 : Int)) (μ' := fun c i => if S c i = true then (1 : Int) else 0) (fun c i h => if_neg (by rw [h]; decide)) c i q
  cases e : S c i with
  | false => rfl
  | true =>
    have k : (if S c i = true then (1 : Int) else 0) = 0 := k
    rw [if_pos e] at k
    cases k
theorem S0M_Sc {μ μ' : amM} (h : same S0M μ μ') : same (or2 h0 ScM) μ μ' := by
  refine h.wide (fun c i q => ?_)
  unfold S0M
  have e3 : S87 c i = false := by
    cases e : S87 c i with
    | false => rfl
    | true => rw [Nat.eq_of_beq_eq_true e] at q; cases q
  rw [imp_of SP_Sc c i q, imp_of S71w_Sc c i q, e3]; rfl
theorem S0M_F {μ μ' : amM} (h : same S0M μ μ') : same FM μ μ' := by
  refine h.wide (fun c i q => ?_)
  unfold S0M
  have e3 : S87 c i = false := by
    cases e : S87 c i with
    | false => rfl
    | true => rw [Nat.eq_of_beq_eq_true e] at q; cases q
  rw [imp_of SP_F c i q, imp_of S71w_F c i q, e3]; rfl
theorem harm_m (d : Nat) {σ : St} {μ : amM} (ok : σ.Ok) (h : MI σ μ) (k s : Int) : OM μ (RD cr2 (d + 20) 233 [71, k, s] μ) (harmS σ k s) := by
  unfold harmS
  rw [M233, mSort_e, bnd_s, ifb]
  refine OM.cd (fun q => ?_) (fun _ => ?_)
  · obtain ⟨a, b, rfl, rfl, ha, hb⟩ := isMS_n q
    obtain ⟨μ', g1, g2⟩ := mHarm_e (d + 13) ok.t h.tm ha (b : Int)
    rw [g1, bnd_s, B233_2, Int.toNat_natCast]
    exact ⟨μ', rfl, h.set0 ok (S0M_Sc g2), S0M_F g2⟩
  · rw [B233_1]
    exact (OM.no _ ok h (by decide) (by decide)).bi (fun _ _ => by rw [B233_2])
theorem worst_mloop (d : Nat) {σ : St} (ok : σ.Ok) : ∀ (n i : Nat) (best most : Int) (μ : amM), i + n = 12 → MI σ μ → ∃ μ', At cr2 (d + 6) 234 1 [] [71, best, most, (i : Int), 0] μ = some (wst σ.t n i best most, μ') ∧ MI σ μ' ∧ same FM μ μ'
  | 0, i, best, most, μ, hi, h => by
    rw [B234_1, if_neg (by omega), B234_6]
    exact ⟨μ, rfl, h, same.rf⟩
  | n + 1, i, best, most, μ, hi, h => by
    obtain ⟨μ1, g1, g2⟩ := mHarm_e d ok.t h.tm (k := i / 3) (by omega) ((i % 3 : Nat) : Int)
    have hm := h.set0 ok (S0M_Sc g2)
    have e1 : w32 ((i : Int).tdiv 3) = ((i / 3 : Nat) : Int) := by
      rw [Int.tdiv_eq_ediv_of_nonneg (by omega), w32_i (by omega) (by omega)]; rfl
    have e2 : (i : Int).tmod 3 = ((i % 3 : Nat) : Int) := by
      rw [Int.tmod_eq_emod_of_nonneg (by omega)]; rfl
    rw [B234_1, if_pos (by omega), e1, e2, g1, bnd_s]
    unfold wst
    by_cases q : most < σ.t.harm (i / 3) ((i % 3 : Nat) : Int)
    · rw [if_pos q, if_pos q, B234_3, if_pos q, B234_5, w32_i (by omega) (by omega)]
      obtain ⟨μ2, f1, f2, f3⟩ := worst_mloop d ok n (i + 1) i (σ.t.harm (i / 3) ((i % 3 : Nat) : Int)) μ1 (by omega) hm
      exact ⟨μ2, f1, f2, (S0M_F g2).tr f3⟩
    · rw [if_neg q, if_neg q, B234_2, B234_3, if_neg q, B234_4, B234_5, w32_i (by omega) (by omega)]
      obtain ⟨μ2, f1, f2, f3⟩ := worst_mloop d ok n (i + 1) best most μ1 (by omega) hm
      exact ⟨μ2, f1, f2, (S0M_F g2).tr f3⟩
theorem worst_m (d : Nat) {σ : St} {μ : amM} (ok : σ.Ok) (h : MI σ μ) : OM μ (RD cr2 (d + 20) 234 [71] μ) (worstS σ) := by
  obtain ⟨μ', g1, g2, g3⟩ := worst_mloop (d + 13) ok 12 0 0 (-1) μ rfl h
  rw [M234]
  exact ⟨μ', g1, g2, g3⟩
