/-! ===== which houses may stand: the class ===== -/
theorem drop_getD {α : Type} {l : List α} {i : Nat} (z : α) (h : i < l.length) : l.drop i = l.getD i z :: l.drop (i + 1) := by
  rw [List.drop_eq_getElem_cons h, List.getD_eq_getElem?_getD, List.getElem?_eq_getElem h]; rfl
theorem getD_mem {α : Type} {l : List α} {i : Nat} (z : α) (h : i < l.length) : l.getD i z ∈ l := by
  rw [List.getD_eq_getElem?_getD, List.getElem?_eq_getElem h]
  exact List.getElem_mem h
theorem may_loop (d : Nat) {t : Tn} {μ : amM} (ok : t.Ok) (h : TC 2 t μ) {lot : Nat} (hl : lot < t.lots) {c : Int} (hc : 0 ≤ c ∧ c < 256) : ∀ n i, i + n = (t.nb lot).length → At cr2 (d + 3) 74 1 [] [2, (lot : Int), c, 4 * (lot : Int), (i : Int), 0] μ = some (bi (((t.nb lot).drop i).all fun o => !t.bound o || t.go c (t.code o)), μ)
  | 0, i, hi => by
    have h64 := ok.le.2
    rw [B74_1, rd_p (by omega) (by omega), Int.toNat_natCast, (h.2.2 lot hl).1, if_neg (by omega), B74_3, List.drop_eq_nil_of_le (by omega)]
    rfl
  | n + 1, i, hi => by
    have h64 := ok.le.2
    have hn := ok.nbs hl
    have hil : i < (t.nb lot).length := by omega
    have ho := hn.2 _ (getD_mem 0 hil)
    rw [B74_1, rd_p (by omega) (by omega), Int.toNat_natCast, (h.2.2 lot hl).1, if_pos (by omega), w32_i (x := 4 * (lot : Int) + i) (by omega) (by omega), rd_p (by omega) (by omega), show (4 * (lot : Int) + i).toNat = 4 * lot + i by omega, (h.2.2 lot hl).2 i hil, isBound_e (d + 2) ok h ho.1, bnd_s, drop_getD 0 hil, List.all_cons]
    have ih := may_loop d ok h hl hc n (i + 1) (by omega)
    have e2 : At cr2 (d + 3) 74 2 [] [2, (lot : Int), c, 4 * (lot : Int), (i : Int), 0] μ = some (bi (((t.nb lot).drop (i + 1)).all fun o => !t.bound o || t.go c (t.code o)), μ) := by
      rw [B74_2, w32_i (by omega) (by omega)]
      exact ih
    cases bb : t.bound ((t.nb lot).getD i 0) with
    | false =>
      rw [if_pos (show bi false = 0 from rfl), e2]
      rfl
    | true =>
      have nb := Tn.bound_ne bb
      rw [if_neg (show ¬ bi true = 0 from by decide), rd_p (by omega) (by omega), Int.toNat_natCast, ((h.2.1 _ ho.1).2 nb).2, doGo_e d h hc ((ok.2 _ ho.1).2 nb).2.2, bnd_s]
      cases t.go c (t.code ((t.nb lot).getD i 0)) with
      | false => rw [if_pos (show bi false = 0 from rfl)]; rfl
      | true => rw [if_neg (show ¬ bi true = 0 from by decide), e2]; rfl
theorem mayStand_e (d : Nat) {t : Tn} {μ : amM} (ok : t.Ok) (h : TC 2 t μ) {lot : Nat} (hl : lot < t.lots) {c : Int} (hc : 0 ≤ c ∧ c < 256) : RD cr2 (d + 4) 74 [2, (lot : Int), c] μ = some (bi (t.may lot c), μ) := by
  have h64 := ok.le.2
  rw [M74, w32_i (by omega) (by omega), Int.mul_comm]
  exact may_loop d ok h hl hc _ 0 (Nat.zero_add _)
/-- how many of the houses below n a test takes -/
def cntB (P : Int → Bool) (n : Nat) : Nat := ((List.range n).filter (fun h : Nat => P (h : Int))).length
theorem cntB_succ (P : Int → Bool) (n : Nat) : cntB P (n + 1) = cntB P n + (if P (n : Int) then 1 else 0) := by
  unfold cntB
  rw [List.range_succ, List.filter_append, List.length_append]
  congr 1
  cases h : P (n : Int) <;> simp [h]
theorem cntB_le (P : Int → Bool) (n : Nat) : cntB P n ≤ n := by
  unfold cntB
  have := List.length_filter_le (fun h : Nat => P (h : Int)) (List.range n)
  rw [List.length_range] at this
  exact this
theorem howMay_loop (d : Nat) {t : Tn} {μ : amM} (ok : t.Ok) (h : TC 2 t μ) {lot : Nat} (hl : lot < t.lots) : ∀ n i, i + n = 81 → At cr2 (d + 4) 75 1 [] [2, (lot : Int), (cntB (fun x => t.may lot (hc x)) i : Int), (i : Int)] μ = some ((cntB (fun x => t.may lot (hc x)) 81 : Int), μ)
  | 0, i, hi => by
    have hi : i = 81 := by omega
    subst hi
    rw [B75_1, if_neg (by omega), B75_3]
  | n + 1, i, hi => by
    have hle := cntB_le (fun x => t.may lot (hc x)) i
    have ih := howMay_loop d ok h hl n (i + 1) (by omega)
    rw [cntB_succ] at ih
    rw [B75_1, if_pos (by omega), codeOf_e (d + 3) μ (by omega), bnd_s, mayStand_e d ok h hl (hc_R (by omega)), bnd_s]
    cases hb : t.may lot (hc (i : Int)) with
    | false =>
      rw [if_pos (show bi false = 0 from rfl), B75_2, w32_i (by omega) (by omega)]
      simp only [hb] at ih
      exact ih
    | true =>
      rw [if_neg (show ¬ bi true = 0 from by decide), B75_2, w32_i (x := _ + 1) (by omega) (by omega), w32_i (x := _ + 1) (by omega) (by omega)]
      simp only [hb] at ih
      exact ih
theorem howManyMay_e (d : Nat) {t : Tn} {μ : amM} (ok : t.Ok) (h : TC 2 t μ) {lot : Nat} (hl : lot < t.lots) : RD cr2 (d + 5) 75 [2, (lot : Int)] μ = some ((cntB (fun x => t.may lot (hc x)) 81 : Int), μ) := by
  rw [M75]
  exact howMay_loop d ok h hl 81 0 rfl
