/-! ===== one lot further: how many ways there are, in the class ===== -/
def Tn.any (t : Tn) (L : Int) : Bool := L == -1 || t.kind L.toNat == -1
def Tn.opt (t : Tn) (L : Int) : Nat := bif t.any L then 81 else 1
def Tn.cc (t : Tn) (L : Int) (j : Nat) : Int := bif t.any L then hc (j : Int) else t.code L.toNat
def Tn.lk (t : Tn) (L : Int) : Bool := t.any L || t.bound L.toNat
def Tn.vL (t : Tn) (L : Int) : Prop := L = -1 ∨ ∃ l : Nat, L = l ∧ l < t.lots
def Tn.TT (t : Tn) (L L' : Int) (j i : Nat) : Bool := !(t.lk L && t.lk L') || t.go (t.cc L j) (t.cc L' i)
def Tn.cx (t : Tn) (L L' : Int) (v : Nat → Int) (i : Nat) : Int := sm (t.opt L) (fun j => bi (t.TT L L' j i) * v j)
theorem any_l (t : Tn) (l : Nat) : t.any (l : Int) = (t.kind l == -1) := by
  unfold Tn.any
  rw [beq_false_of_ne (show (l : Int) ≠ -1 by omega), Bool.false_or, Int.toNat_natCast]
theorem any_1 (t : Tn) : t.any (-1) = true := rfl
theorem opt_81 (t : Tn) (L : Int) : t.opt L ≤ 81 ∧ 1 ≤ t.opt L := by
  unfold Tn.opt
  cases t.any L <;> exact ⟨by decide, by decide⟩
theorem opt_t {t : Tn} {L : Int} (h : t.any L = true) : t.opt L = 81 := by
  unfold Tn.opt
  rw [h]; rfl
theorem opt_f {t : Tn} {L : Int} (h : t.any L = false) : t.opt L = 1 := by
  unfold Tn.opt
  rw [h]; rfl
theorem cc_t {t : Tn} {L : Int} (h : t.any L = true) (j : Nat) : t.cc L j = hc (j : Int) := by
  unfold Tn.cc
  rw [h]; rfl
theorem cc_f {t : Tn} {L : Int} (h : t.any L = false) (j : Nat) : t.cc L j = t.code L.toNat := by
  unfold Tn.cc
  rw [h]; rfl
theorem vL_f {t : Tn} {L : Int} (hv : t.vL L) (h : t.any L = false) : ∃ l : Nat, L = l ∧ l < t.lots ∧ t.kind l ≠ -1 := by
  rcases hv with rfl | ⟨l, rfl, hl⟩
  · cases h
  · rw [any_l] at h
    exact ⟨l, rfl, hl, fun e => by rw [e] at h; cases h⟩
theorem cc_R {t : Tn} (ok : t.Ok) {L : Int} (hv : t.vL L) {j : Nat} (hj : j < 81) : 0 ≤ t.cc L j ∧ t.cc L j < 256 := by
  cases h : t.any L with
  | true =>
    rw [cc_t h]
    exact hc_R (by omega)
  | false =>
    obtain ⟨l, rfl, hl, hn⟩ := vL_f hv h
    rw [cc_f h, Int.toNat_natCast]
    exact ((ok.2 l hl).2 hn).2.2
theorem isAny_e (d : Nat) {t : Tn} {μ : amM} (ok : t.Ok) (h : TC 2 t μ) {L : Int} (hv : t.vL L) : RD cr2 (d + 1) 94 [2, L] μ = some (bi (t.any L), μ) := by
  have h64 := ok.le.2
  rcases hv with rfl | ⟨l, rfl, hl⟩
  · rw [M94, if_pos rfl, B94_1, B94_3, any_1]; rfl
  · rw [M94, if_neg (by omega), rd_p (by omega) (by omega), Int.toNat_natCast, (h.2.1 l hl).1, any_l]
    by_cases q : t.kind l = -1
    · rw [if_pos q, B94_1, B94_3, q]; rfl
    · rw [if_neg q, B94_2, B94_3, beq_false_of_ne q]; rfl
theorem opts_e (d : Nat) {t : Tn} {μ : amM} (ok : t.Ok) (h : TC 2 t μ) {L : Int} (hv : t.vL L) : RD cr2 (d + 2) 95 [2, L] μ = some ((t.opt L : Int), μ) := by
  rw [M95, isAny_e d ok h hv, bnd_s]
  cases q : t.any L with
  | true => rw [if_neg (by decide), B95_2, opt_t q]; rfl
  | false => rw [if_pos (by rfl), B95_1, B95_2, opt_f q]; rfl
def Q78 (p : Nat) : Prop := p = 57 ∨ p = 58
theorem p78_ld {p : Nat} (hp : Q78 p) {μ : amM} {i : Nat} (hi : i < 81) {f : Int → amR} : amPld 21 μ (p : Int) (i : Int) f = f (μ p i) := by
  unfold amPld
  rcases hp with rfl | rfl
  · rw [if_pos (by decide), if_pos ⟨by omega, show (i : Int) < 81 by omega⟩]; rfl
  · rw [if_pos (by decide), if_pos ⟨by omega, show (i : Int) < 81 by omega⟩]; rfl
theorem p78_st {p : Nat} (hp : Q78 p) {μ : amM} {i : Nat} (hi : i < 81) {v : Int} {f : amM → amR} : amPst 21 μ (p : Int) (i : Int) v f = f (up μ p i v) := by
  unfold amPst
  rcases hp with rfl | rfl
  · rw [if_pos (by decide), if_pos ⟨by omega, show (i : Int) < 81 by omega⟩, if_neg (by decide)]; rfl
  · rw [if_pos (by decide), if_pos ⟨by omega, show (i : Int) < 81 by omega⟩, if_neg (by decide)]; rfl
def HC (μ : amM) : Prop := ∀ h : Nat, h < 81 → μ 56 h = hc h
def cf (t : Tn) (L : Int) (c tg : Int) (v : Nat → Int) (j : Nat) : Int := bi (tg == 0 || t.go (t.cc L j) c) * v j
theorem ways_in (d : Nat) {t : Tn} {μ : amM} (ok : t.Ok) (h : TC 2 t μ) (hh : HC μ) {L : Int} (hv : t.vL L) {c tg : Int} (hc' : 0 ≤ c ∧ c < 256) {p : Nat} (hp : Q78 p) (h1 : μ 55 1 = p) {v : Nat → Int} (hw : VW p (t.opt L) v μ) : ∀ n j, j + n = t.opt L → At cr2 (d + 3) 97 3 [] [55, 2, L, c, tg, bi (t.any L), (t.opt L : Int), w64 (sm j (cf t L c tg v)), 0, (j : Int)] μ = some (w64 (sm (t.opt L) (cf t L c tg v)), μ)
  | 0, j, hj => by
    rw [B97_3, if_neg (by omega), B97_8, show j = t.opt L by omega]
  | n + 1, j, hj => by
    have h81 := (opt_81 t L).1
    have h64 := ok.le.2
    have ih := ways_in d ok h hh hv (tg := tg) hc' hp h1 hw n (j + 1) (by omega)
    have add : (tg == 0 || t.go (t.cc L j) c) = true → At cr2 (d + 3) 97 6 [] [55, 2, L, c, tg, bi (t.any L), (t.opt L : Int), w64 (sm j (cf t L c tg v)), 0, (j : Int)] μ = some (w64 (sm (t.opt L) (cf t L c tg v)), μ) := fun q => by
      have hp0 : (0 : Int) ≤ (p : Int) := by omega
      rw [B97_6, h1, if_pos hp0, p78_ld hp (by omega), hw j (by omega), w64_al, w64_ar, B97_7, w32_i (by omega) (by omega)]
      rw [show sm (j + 1) (cf t L c tg v) = sm j (cf t L c tg v) + v j from by
        show sm j _ + cf t L c tg v j = _
        unfold cf
        rw [q, show bi true = 1 from rfl, Int.one_mul]] at ih
      exact ih
    have skip : (tg == 0 || t.go (t.cc L j) c) = false → At cr2 (d + 3) 97 7 [] [55, 2, L, c, tg, bi (t.any L), (t.opt L : Int), w64 (sm j (cf t L c tg v)), 0, (j : Int)] μ = some (w64 (sm (t.opt L) (cf t L c tg v)), μ) := fun q => by
      rw [B97_7, w32_i (by omega) (by omega)]
      rw [show sm (j + 1) (cf t L c tg v) = sm j (cf t L c tg v) from by
        show sm j _ + cf t L c tg v j = _
        unfold cf
        rw [q, show bi false = 0 from rfl, Int.zero_mul, Int.add_zero]] at ih
      exact ih
    rw [B97_3, if_pos (by omega)]
    by_cases q0 : tg = 0
    · rw [if_pos q0]
      exact add (by rw [q0]; rfl)
    · have e5 : At cr2 (d + 3) 97 5 [t.cc L j, 2] [55, 2, L, c, tg, bi (t.any L), (t.opt L : Int), w64 (sm j (cf t L c tg v)), 0, (j : Int)] μ = some (w64 (sm (t.opt L) (cf t L c tg v)), μ) := by
        rw [B97_5, doGo_e d h (cc_R ok hv (by omega)) hc', bnd_s]
        cases q : t.go (t.cc L j) c with
        | true =>
          rw [if_neg (by decide)]
          exact add (by rw [q, Bool.or_true])
        | false =>
          rw [if_pos (by rfl)]
          exact skip (by rw [q, beq_false_of_ne q0]; rfl)
      rw [if_neg q0]
      cases q : t.any L with
      | true =>
        rw [q] at e5
        rw [if_neg (by decide), rd_p (by omega) (by omega), Int.toNat_natCast, hh j (by omega)]
        rw [cc_t q] at e5
        exact e5
      | false =>
        rw [q] at e5
        obtain ⟨l, rfl, hl, hn⟩ := vL_f hv q
        rw [if_pos (by rfl), B97_4, rd_p (by omega) (by omega), Int.toNat_natCast, ((h.2.1 l hl).2 hn).2]
        rw [cc_f q, Int.toNat_natCast] at e5
        exact e5
theorem ways_e (d : Nat) {t : Tn} {μ : amM} (ok : t.Ok) (h : TC 2 t μ) (hh : HC μ) {L : Int} (hv : t.vL L) {c tg : Int} (hc' : 0 ≤ c ∧ c < 256) {p : Nat} (hp : Q78 p) (h1 : μ 55 1 = p) {v : Nat → Int} (hw : VW p (t.opt L) v μ) : RD cr2 (d + 4) 97 [55, 2, L, c, tg] μ = some (w64 (sm (t.opt L) (cf t L c tg v)), μ) := by
  have e := ways_in d ok h hh hv (tg := tg) hc' hp h1 hw (t.opt L) 0 (by omega)
  have e0 : w64 (sm 0 (cf t L c tg v)) = 0 := w64_0
  rw [e0] at e
  rw [M97, isAny_e _ ok h hv, bnd_s]
  cases q : t.any L with
  | true =>
    rw [q, opt_t q] at e
    rw [if_neg (by decide), B97_2, opt_t q]
    exact e
  | false =>
    rw [q, opt_f q] at e
    rw [if_pos (by rfl), B97_1, B97_2, opt_f q]
    exact e
def SY (c i : Nat) : Bool := (Nat.beq c 55 && (Nat.beq i 1 || Nat.beq i 2)) || Nat.beq c 57 || Nat.beq c 58
theorem SY_p {p : Nat} (hp : Q78 p) (i : Nat) : SY p i = true := by
  rcases hp with rfl | rfl <;> rfl
theorem SY_e {c i : Nat} (h : SY c i = true) : c = 55 ∧ (i = 1 ∨ i = 2) ∨ c = 57 ∨ c = 58 := by
  unfold SY at h
  rw [Bool.or_eq_true, Bool.or_eq_true, Bool.and_eq_true, Bool.or_eq_true] at h
  rcases h with (⟨h1, h2⟩ | h) | h
  · refine Or.inl ⟨Nat.eq_of_beq_eq_true h1, ?_⟩
    rcases h2 with h | h
    · exact Or.inl (Nat.eq_of_beq_eq_true h)
    · exact Or.inr (Nat.eq_of_beq_eq_true h)
  · exact Or.inr (Or.inl (Nat.eq_of_beq_eq_true h))
  · exact Or.inr (Or.inr (Nat.eq_of_beq_eq_true h))
theorem TC.ky {t : Tn} {μ μ' : amM} (h : TC 2 t μ) (hs : same SY μ μ') : TC 2 t μ' := h.keep hs (fun i _ _ => rfl) (fun _ => rfl) (fun _ => rfl) (fun _ => rfl) (fun _ => rfl) (fun _ => rfl)
theorem HC.ky {μ μ' : amM} (h : HC μ) (hs : same SY μ μ') : HC μ' := fun i hi => (hs _ _ rfl).trans (h i hi)
/-- the two rows of numbers, one of them now in use -/
def PP (p : Nat) (μ : amM) : Prop := Q78 p ∧ μ 55 1 = p ∧ μ 55 2 = ((115 - p : Nat) : Int)
theorem PP.o {p : Nat} {μ : amM} (h : PP p μ) : Q78 (115 - p) ∧ 115 - p ≠ p ∧ p ≠ 55 ∧ 115 - p ≠ 55 ∧ 115 - (115 - p) = p := by
  rcases h.1 with rfl | rfl
  · exact ⟨Or.inr rfl, by decide, by decide, by decide, by decide⟩
  · exact ⟨Or.inl rfl, by decide, by decide, by decide, by decide⟩
theorem carry_in (d : Nat) {t : Tn} (ok : t.Ok) {L L' : Int} (hv : t.vL L) (hv' : t.vL L') {tg : Int} {p : Nat} {v : Nat → Int} : ∀ (n i : Nat) (μ : amM), i + n = t.opt L' → TC 2 t μ → HC μ → PP p μ → VW p (t.opt L) v μ → VW (115 - p) i (fun i => sm (t.opt L) (cf t L (t.cc L' i) tg v)) μ → ∃ μ', At cr2 (d + 4) 96 5 [] [55, 2, L, L', tg, (i : Int)] μ = At cr2 (d + 4) 96 8 [] [55, 0, 0, 0, 0, 0] μ' ∧ VW (115 - p) (t.opt L') (fun i => sm (t.opt L) (cf t L (t.cc L' i) tg v)) μ' ∧ PP p μ' ∧ same SY μ μ'
  | 0, i, μ, hi, h, hh, hp, hw, hn => by
    rw [B96_5, opts_e _ ok h hv', bnd_s, if_neg (by omega)]
    rw [show i = t.opt L' by omega] at hn
    exact ⟨μ, rfl, hn, hp, same.rf⟩
  | n + 1, i, μ, hi, h, hh, hp, hw, hn => by
    have h81 := (opt_81 t L').1
    have h64 := ok.le.2
    obtain ⟨o1, o2, o3, o4, o5⟩ := hp.o
    have hs : same SY μ (up μ (115 - p) i (w64 (sm (t.opt L) (cf t L (t.cc L' i) tg v)))) := same.rf.up (SY_p o1 i)
    obtain ⟨μ', g1, g2, g3, g4⟩ := carry_in d ok hv hv' (tg := tg) (p := p) (v := v) n (i + 1) (up μ (115 - p) i (w64 (sm (t.opt L) (cf t L (t.cc L' i) tg v)))) (by omega) (h.ky hs) (hh.ky hs) ⟨hp.1, (up_ne _ _ _ _ (Or.inl (Ne.symm o4))).trans hp.2.1, (up_ne _ _ _ _ (Or.inl (Ne.symm o4))).trans hp.2.2⟩ (fun k hk => (up_ne _ _ _ _ (Or.inl (Ne.symm o2))).trans (hw k hk)) (fun k hk => by
      by_cases q : k = i
      · rw [q, up_eq]
      · rw [up_ne _ _ _ _ (Or.inr q)]
        exact hn k (by omega))
    refine ⟨μ', ?_, g2, g3, hs.tn g4⟩
    have e7 : At cr2 (d + 4) 96 7 [t.cc L' i, L, 2, 55, (i : Int), ((115 - p : Nat) : Int)] [55, 2, L, L', tg, (i : Int)] μ = At cr2 (d + 4) 96 8 [] [55, 0, 0, 0, 0, 0] μ' := by
      rw [B96_7, ways_e d ok h hh hv (cc_R ok hv' (by omega)) hp.1 hp.2.1 hw, bnd_s, p78_st o1 (by omega), w32_i (by omega) (by omega)]
      exact g1
    have hq0 : (0 : Int) ≤ ((115 - p : Nat) : Int) := by omega
    rw [B96_5, opts_e _ ok h hv', bnd_s, if_pos (by omega), hp.2.2, if_pos hq0, isAny_e _ ok h hv', bnd_s]
    cases q : t.any L' with
    | true =>
      rw [if_neg (by decide), rd_p (by omega) (by omega), Int.toNat_natCast, hh i (by omega)]
      rw [cc_t q] at e7
      exact e7
    | false =>
      obtain ⟨l, rfl, hl, hn'⟩ := vL_f hv' q
      rw [if_pos (by rfl), B96_6, rd_p (by omega) (by omega), Int.toNat_natCast, ((h.2.1 l hl).2 hn').2]
      rw [cc_f q, Int.toNat_natCast] at e7
      exact e7
theorem lk_e (d : Nat) {t : Tn} {μ : amM} (ok : t.Ok) (h : TC 2 t μ) {L : Int} (hv : t.vL L) {f : Int → amM → amR} {x y : amM → amR} (hf : ∀ v μ', f v μ' = if v = 0 then bnd (RD cr2 (d + 1) 70 [2, L] μ') (fun v2 μ2 => if v2 = 0 then x μ2 else y μ2) else y μ') : bnd (RD cr2 (d + 1) 94 [2, L] μ) f = bif t.lk L then y μ else x μ := by
  rw [isAny_e _ ok h hv, bnd_s, hf]
  unfold Tn.lk
  cases q : t.any L with
  | true => rw [if_neg (by decide), Bool.true_or]; rfl
  | false =>
    obtain ⟨l, rfl, hl, hn⟩ := vL_f hv q
    rw [if_pos (by rfl), isBound_e _ ok h hl, bnd_s, ifb, Bool.false_or, Int.toNat_natCast]
theorem carry_e (d : Nat) {t : Tn} {μ : amM} (ok : t.Ok) (h : TC 2 t μ) (hh : HC μ) {L L' : Int} (hv : t.vL L) (hv' : t.vL L') {p : Nat} (hp : PP p μ) {v : Nat → Int} (hw : VW p (t.opt L) v μ) : ∃ μ', RD cr2 (d + 5) 96 [55, 2, L, L'] μ = some (0, μ') ∧ VW (115 - p) (t.opt L') (t.cx L L' v) μ' ∧ PP (115 - p) μ' ∧ same SY μ μ' := by
  obtain ⟨o1, o2, o3, o4, o5⟩ := hp.o
  have e4 : ∃ μ', At cr2 (d + 4) 96 4 [bi (t.lk L && t.lk L')] [55, 2, L, L', 0, 0] μ = some (0, μ') ∧ VW (115 - p) (t.opt L') (t.cx L L' v) μ' ∧ PP (115 - p) μ' ∧ same SY μ μ' := by
    obtain ⟨μ', g1, g2, g3, g4⟩ := carry_in d ok hv hv' (tg := bi (t.lk L && t.lk L')) (p := p) (v := v) (t.opt L') 0 μ (by omega) h hh hp hw (fun i hi => by omega)
    have a1 : (0 : Int) ≤ (p : Int) := by omega
    have a2 : (0 : Int) ≤ ((115 - p : Nat) : Int) := by omega
    refine ⟨up (up μ' 55 1 ((115 - p : Nat) : Int)) 55 2 (p : Int), ?_, fun i hi => ?_, ⟨o1, ?_, ?_⟩, g4.tn ((same.rf.up rfl).up rfl)⟩
    · rw [B96_4]
      refine g1.trans ?_
      rw [B96_8, g3.2.1, g3.2.2, if_pos a1, if_pos a2, wf_e, wf_e]
    · rw [up_ne _ _ _ _ (Or.inl o4), up_ne _ _ _ _ (Or.inl o4), g2 i hi]
      congr 1
      refine sm_congr _ (fun j _ => ?_)
      unfold cf Tn.TT
      cases (t.lk L && t.lk L') <;> rfl
    · rw [up_ne _ _ _ _ (Or.inr (by decide)), up_eq]
    · rw [up_eq, o5]
  have e2 : t.lk L = true → ∃ μ', At cr2 (d + 4) 96 1 [] [55, 2, L, L', 0, 0] μ = some (0, μ') ∧ VW (115 - p) (t.opt L') (t.cx L L' v) μ' ∧ PP (115 - p) μ' ∧ same SY μ μ' := fun q => by
    rw [B96_1, lk_e (d + 3) ok h hv' (x := fun μ => At cr2 (d + 4) 96 3 [] [55, 2, L, L', 0, 0] μ) (y := fun μ => At cr2 (d + 4) 96 2 [] [55, 2, L, L', 0, 0] μ) (fun _ _ => rfl)]
    rw [q] at e4
    cases q2 : t.lk L' with
    | true =>
      rw [q2] at e4
      rw [cond_true, B96_2]
      exact e4
    | false =>
      rw [q2] at e4
      rw [cond_false, B96_3]
      exact e4
  rw [M96, lk_e (d + 3) ok h hv (x := fun μ => At cr2 (d + 4) 96 3 [] [55, 2, L, L', 0, 0] μ) (y := fun μ => At cr2 (d + 4) 96 1 [] [55, 2, L, L', 0, 0] μ) (fun _ _ => rfl)]
  cases q : t.lk L with
  | true =>
    rw [cond_true]
    exact e2 q
  | false =>
    rw [q, Bool.false_and] at e4
    rw [cond_false, B96_3]
    exact e4
