/-! ===== the class's search: the lists of wrong pairs ===== -/
theorem lqT {lev : Nat} (h : lev < 5) : amTg ((43 + lev : Nat) : Int) = 20 ∧ amLn ((43 + lev : Nat) : Int) = 128 := by
  match lev, h with
  | 0, _ => exact ⟨by decide, by decide⟩
  | 1, _ => exact ⟨by decide, by decide⟩
  | 2, _ => exact ⟨by decide, by decide⟩
  | 3, _ => exact ⟨by decide, by decide⟩
  | 4, _ => exact ⟨by decide, by decide⟩
theorem lqQ {lev : Nat} (h : lev < 5) {μ : amM} {f : Int → amR} : amQld cr2 25 μ 42 (lev : Int) f = f ((43 + lev : Nat) : Int) := by
  match lev, h with
  | 0, _ => exact ql0 (t := 25) (x := 42) (i := 0) (v := 43) rfl (by decide) rfl
  | 1, _ => exact ql0 (t := 25) (x := 42) (i := 1) (v := 44) rfl (by decide) rfl
  | 2, _ => exact ql0 (t := 25) (x := 42) (i := 2) (v := 45) rfl (by decide) rfl
  | 3, _ => exact ql0 (t := 25) (x := 42) (i := 3) (v := 46) rfl (by decide) rfl
  | 4, _ => exact ql0 (t := 25) (x := 42) (i := 4) (v := 47) rfl (by decide) rfl
theorem lqA {lev : Nat} (h : lev < 5) {μ : amM} {i : Nat} (hi : i < 128) {f : Int → amR} : amAld μ ((43 + lev : Nat) : Int) (i : Int) f = f (μ (43 + lev) i) := by
  have e := lqT h
  unfold amAld
  rw [if_pos e.1, e.2, if_pos ⟨by omega, by omega⟩]; rfl
theorem lqW {lev : Nat} (h : lev < 5) {μ : amM} {i : Nat} (hi : i < 128) {v : Int} {f : amM → amR} : amPst 20 μ ((43 + lev : Nat) : Int) (i : Int) v f = f (up μ (43 + lev) i v) := by
  have e := lqT h
  unfold amPst
  rw [if_pos e.1, e.2, if_pos ⟨by omega, by omega⟩, if_neg (by decide)]; rfl
theorem pr64 {a b : Nat} (ha : a < 64) (hb : b < 64) : w32 ((64 * (a : Int) + (b : Int)).tdiv 64) = (a : Int) ∧ (64 * (a : Int) + (b : Int)).tmod 64 = (b : Int) := by
  have e : 64 * (a : Int) + (b : Int) = ((64 * a + b : Nat) : Int) := by omega
  rw [e]
  constructor
  · rw [show ((64 * a + b : Nat) : Int).tdiv 64 = (((64 * a + b) / 64 : Nat) : Int) from rfl, w32_i (by omega) (by omega)]
    omega
  · rw [show ((64 * a + b : Nat) : Int).tmod 64 = (((64 * a + b) % 64 : Nat) : Int) from rfl]
    omega
theorem gap_R {t : Tn} (p : Nat × Nat) (ok : t.Ok) : -4 ≤ t.gap p ∧ t.gap p ≤ 4 := by
  have r := ok.1
  have a0 := al1_01 (t.code p.1) (t.code p.2) 0
  have a1 := al1_01 (t.code p.1) (t.code p.2) 1
  have a2 := al1_01 (t.code p.1) (t.code p.2) 2
  have a3 := al1_01 (t.code p.1) (t.code p.2) 3
  unfold Tn.gap alk
  omega
theorem gap_w {t : Tn} (ok : t.Ok) (x y : Int) : w32 (t.least - alk x y) = t.least - alk x y ∧ w32 (alk x y - t.most) = alk x y - t.most := by
  have r := ok.1
  have a0 := al1_01 x y 0
  have a1 := al1_01 x y 1
  have a2 := al1_01 x y 2
  have a3 := al1_01 x y 3
  have e : 0 ≤ alk x y ∧ alk x y ≤ 4 := by
    unfold alk
    omega
  clear a0 a1 a2 a3
  constructor
  · rw [w32_i (by omega) (by omega)]
  · rw [w32_i (by omega) (by omega)]
theorem x3_w {i : Nat} {x3 g : Int} (hi : i < 128) (h1 : -4 * (i : Int) ≤ x3) (h2 : x3 ≤ 4 * (i : Int)) (h3 : -4 ≤ g ∧ g ≤ 4) : w32 (x3 + g) = x3 + g ∧ -4 * ((i + 1 : Nat) : Int) ≤ x3 + g ∧ x3 + g ≤ 4 * ((i + 1 : Nat) : Int) := ⟨w32_i (by omega) (by omega), by omega, by omega⟩
theorem x3_n {i : Nat} {x3 : Int} (h1 : -4 * (i : Int) ≤ x3) (h2 : x3 ≤ 4 * (i : Int)) : -4 * ((i + 1 : Nat) : Int) ≤ x3 ∧ x3 ≤ 4 * ((i + 1 : Nat) : Int) := ⟨by omega, by omega⟩
theorem wi1 {i : Nat} (hi : i < 1000) : w32 ((i : Int) + 1) = ((i + 1 : Nat) : Int) := w32_i (by omega) (by omega)
theorem ltI {a b : Nat} (h : a < b) : (a : Int) < (b : Int) := by omega
theorem geI (a : Nat) : (0 : Int) ≤ (a : Int) := Int.natCast_nonneg a
/-- what the search holds at one level -/
def LQ (lev : Nat) (Q : List (Nat × Nat)) (μ : amM) : Prop := μ 48 lev = (Q.length : Nat) ∧ PL (43 + lev) Q μ
theorem gaps_c (d : Nat) {t : Tn} {μ : amM} (ok : t.Ok) (h : TC 2 t μ) (h4 : μ 41 4 = 2) {lev : Nat} (hlev : lev < 5) {Q : List (Nat × Nat)} (hQ : QW t Q) (hq : LQ lev Q μ) (x2 : Int) : ∀ (n i : Nat) (x3 x4 : Int) (U : Nat → Bool), i + n = Q.length → UB x4 U → -4 * (i : Int) ≤ x3 → x3 ≤ 4 * (i : Int) → At cr2 (d + 2) 20 1 [] [41, (lev : Int), x2, x3, x4, 0, (i : Int), 0, 0, 0, 0, 0] μ = some (max x2 (x3 + t.gaps (Q.drop i) U), μ)
  | 0, i, x3, x4, U, hi, hu, hx1, hx2 => by
    have hlen := hQ.len
    have h128 := ok.wl_le
    rw [B20_1, rd_p (by omega) (by omega), Int.toNat_natCast, hq.1, if_neg (by omega), B20_3, List.drop_of_length_le (by omega), jmax_e]
    show _ = some (max x2 (x3 + 0), μ)
    rw [Int.add_zero]
  | n + 1, i, x3, x4, U, hi, hu, hx1, hx2 => by
    have hlen := hQ.len
    have h128 := ok.wl_le
    have h64 := ok.le.2
    have hil : i < Q.length := by omega
    have i128 : i < 128 := by omega
    have iN : i + 1 + n = Q.length := by omega
    clear hlen h128 hi
    have hp := hQ.mem ok (getD_mem (0, 0) hil)
    have a64 : (Q.getD i (0, 0)).1 < 64 := Nat.lt_of_lt_of_le hp.1 h64
    have b64 : (Q.getD i (0, 0)).2 < 64 := Nat.lt_of_lt_of_le hp.2.1 h64
    have hw := wrong_b hp.2.2.2.1
    have ca := ((ok.2 _ hp.1).2 (Tn.bound_ne hw.1)).2.2
    have cb := ((ok.2 _ hp.2.1).2 (Tn.bound_ne hw.2.1)).2.2
    have ea := ((h.2.1 _ hp.1).2 (Tn.bound_ne hw.1)).2
    have eb := ((h.2.1 _ hp.2.1).2 (Tn.bound_ne hw.2.1)).2
    have pq := pr64 a64 b64
    have gw := gap_w ok (t.code (Q.getD i (0, 0)).1) (t.code (Q.getD i (0, 0)).2)
    have xw := x3_w i128 hx1 hx2 (gap_R (Q.getD i (0, 0)) ok)
    have xn := x3_n hx1 hx2
    have cell := hq.2 i hil
    have hd := drop_getD (0, 0) hil
    obtain ⟨-, -, -, -, l1, l2⟩ := h.1
    have wi := wi1 (show i < 1000 from Nat.lt_trans i128 (by decide))
    have hit := UB_hit hu a64 b64
    rw [B20_1, rd_p (geI _) (ltI hlev), Int.toNat_natCast, hq.1, if_pos (ltI hil), lqQ hlev, lqA hlev i128, lqQ hlev, lqA hlev i128, cell, pq.1, pq.2, hd]
    unfold Tn.gaps
    by_cases q : U (Q.getD i (0, 0)).1 = true ∨ U (Q.getD i (0, 0)).2 = true
    · have nz : lAnd x4 (lOr (lShl 1 ((Q.getD i (0, 0)).1 : Int)) (lShl 1 ((Q.getD i (0, 0)).2 : Int))) ≠ 0 := fun e => hit.mp e q
      rw [if_pos q, if_neg (by
        by_cases s : lAnd x4 (lOr (lShl 1 ((Q.getD i (0, 0)).1 : Int)) (lShl 1 ((Q.getD i (0, 0)).2 : Int))) < 0
        · rw [if_pos s]; decide
        · rw [if_neg s, if_neg nz]; decide), B20_2, wi]
      exact gaps_c d ok h h4 hlev hQ hq x2 n (i + 1) x3 x4 U iN hu xn.1 xn.2
    · have zz := hit.mpr q
      rw [if_neg q, zz, if_pos (by decide), h4, if_pos rfl, rd_p (geI _) (ltI a64), Int.toNat_natCast, ea, if_pos rfl, rd_p (geI _) (ltI b64), Int.toNat_natCast, eb, alikeOf_e _ _ ca cb, bnd_s, h4, if_pos rfl, if_pos rfl, l1, l2, gw.1, gw.2, jmax_e, show max (t.least - alk (t.code (Q.getD i (0, 0)).1) (t.code (Q.getD i (0, 0)).2)) (alk (t.code (Q.getD i (0, 0)).1) (t.code (Q.getD i (0, 0)).2) - t.most) = t.gap (Q.getD i (0, 0)) from rfl, xw.1, B20_2, wi]
      refine (gaps_c d ok h h4 hlev hQ hq x2 n (i + 1) (x3 + t.gap (Q.getD i (0, 0))) _ _ iN (UB_add hu a64 b64) xw.2.1 xw.2.2).trans ?_
      rw [Int.add_assoc]
theorem ned_e (d : Nat) {t : Tn} {μ : amM} (ok : t.Ok) (h : TC 2 t μ) (h4 : μ 41 4 = 2) {lev : Nat} (hlev : lev < 5) {Q : List (Nat × Nat)} (hQ : QW t Q) (hq : LQ lev Q μ) : RD cr2 (d + 3) 20 [41, (lev : Int)] μ = some (ned t Q, μ) := by
  have hlen := hQ.len
  have h128 := ok.wl_le
  have w : w32 ((w32 ((w32 (((Q.length : Nat) : Int) + 4)) - 1)).tdiv 4) = (((Q.length + 3) / 4 : Nat) : Int) := by
    rw [w32_i (x := ((Q.length : Nat) : Int) + 4) (by omega) (by omega), w32_i (x := ((Q.length : Nat) : Int) + 4 - 1) (by omega) (by omega), show ((Q.length : Nat) : Int) + 4 - 1 = ((Q.length + 3 : Nat) : Int) by omega, show ((Q.length + 3 : Nat) : Int).tdiv 4 = (((Q.length + 3) / 4 : Nat) : Int) from rfl, w32_i (by omega) (by omega)]
  have g := gaps_c d ok h h4 hlev hQ hq (((Q.length + 3) / 4 : Nat) : Int) Q.length 0 0 0 (fun _ => false) (by omega) UB_0 (by decide) (by decide)
  rw [M20, rd_p (by omega) (by omega), Int.toNat_natCast, hq.1, w]
  refine g.trans ?_
  rw [Int.zero_add]
  rfl
