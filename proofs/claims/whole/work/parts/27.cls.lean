/-! ===== the class's town: what may be changed, which house is the i-th, how many pairs of a lot are wrong ===== -/
def sel (P : Int → Bool) (z : Int) : Nat → Int → Int → Int
  | 0, _, _ => z
  | n + 1, h, i => if P h then (if i = 0 then h else sel P z n (h + 1) (i - 1)) else sel P z n (h + 1) i
def Tn.can (t : Tn) (lot k : Nat) (s : Int) : Bool := t.bound lot && !(mk (t.code lot) k == s)
theorem canChange_e (d : Nat) {t : Tn} {μ : amM} (ok : t.Ok) (h : TC 2 t μ) {lot k : Nat} (hl : lot < t.lots) (hk : k < 4) (s : Int) : RD cr2 (d + 2) 71 [2, (lot : Int), (k : Int), s] μ = some (bi (t.can lot k s), μ) := by
  have h64 := ok.le.2
  have e := (h.2.1 lot hl).1
  rw [M71, rd_p (by omega) (by omega), Int.toNat_natCast, e]
  unfold Tn.can Tn.bound
  by_cases h1 : t.kind lot = -1
  · rw [if_pos h1, B71_1, B71_2, h1]; rfl
  · rw [if_neg h1, rd_p (by omega) (by omega), Int.toNat_natCast, e]
    by_cases h2 : t.kind lot = 5
    · rw [if_pos h2, B71_1, B71_2, h2]; rfl
    · rw [if_neg h2, rd_p (by omega) (by omega), Int.toNat_natCast, ((h.2.1 lot hl).2 h1).2, sortAt_e d μ ((ok.2 lot hl).2 h1).2.2 (by omega), bnd_s, Int.toNat_natCast, beq_false_of_ne h1, beq_false_of_ne h2]
      by_cases h3 : mk (t.code lot) k = s
      · rw [if_pos h3, B71_1, B71_2, h3, beq_self_eq_true]; rfl
      · rw [if_neg h3, B71_2, beq_false_of_ne h3]; rfl
theorem stander_loop (d : Nat) {t : Tn} {μ : amM} (ok : t.Ok) (h : TC 2 t μ) {lot : Nat} (hl : lot < t.lots) : ∀ (n x : Nat) (i : Int), x + n = 81 → 0 ≤ i → i < 2147483648 → At cr2 (d + 4) 76 1 [] [2, (lot : Int), 0, i, (x : Int)] μ = some (sel (fun y => t.may lot (hc y)) (-1) n x i, μ)
  | 0, x, i, hx, h0, h1 => by
    rw [B76_1, if_neg (by omega), B76_4]
    rfl
  | n + 1, x, i, hx, h0, h1 => by
    rw [B76_1, if_pos (by omega), codeOf_e (d + 3) μ (by omega), bnd_s, mayStand_e d ok h hl (hc_R (by omega)), bnd_s]
    unfold sel
    cases hb : t.may lot (hc (x : Int)) with
    | false =>
      rw [if_pos (show bi false = 0 from rfl), B76_3, w32_i (by omega) (by omega)]
      exact stander_loop d ok h hl n (x + 1) i (by omega) h0 h1
    | true =>
      rw [if_neg (show ¬ bi true = 0 from by decide), if_pos rfl]
      by_cases hi : i = 0
      · rw [if_pos hi, if_pos hi]
      · rw [if_neg hi, if_neg hi, B76_2, B76_3, w32_i (x := i + -1) (by omega) (by omega), w32_i (x := _ + 1) (by omega) (by omega)]
        exact stander_loop d ok h hl n (x + 1) (i - 1) (by omega) (by omega) (by omega)
theorem standerAt_e (d : Nat) {t : Tn} {μ : amM} (ok : t.Ok) (h : TC 2 t μ) {lot : Nat} (hl : lot < t.lots) {i : Int} (h0 : 0 ≤ i) (h1 : i < 2147483648) : RD cr2 (d + 5) 76 [2, (lot : Int), i] μ = some (sel (fun y => t.may lot (hc y)) (-1) 81 0 i, μ) := by
  rw [M76]
  exact stander_loop d ok h hl 81 0 i rfl h0 h1
theorem howGo_loop (d : Nat) {t : Tn} {μ : amM} (h : TC 2 t μ) : ∀ n i, i + n = 81 → At cr2 (d + 3) 77 1 [] [2, (cntB (fun x => t.go (hc 0) (hc x)) i : Int), (i : Int)] μ = some ((cntB (fun x => t.go (hc 0) (hc x)) 81 : Int), μ)
  | 0, i, hi => by
    have hi : i = 81 := by omega
    subst hi
    rw [B77_1, if_neg (by omega), B77_3]
  | n + 1, i, hi => by
    have hle := cntB_le (fun x => t.go (hc 0) (hc x)) i
    have ih := howGo_loop d h n (i + 1) (by omega)
    rw [cntB_succ] at ih
    rw [B77_1, if_pos (by omega), codeOf_e (d + 2) μ (by omega), bnd_s, codeOf_e (d + 2) μ (by omega), bnd_s, doGo_e d h (hc_R (by omega)) (hc_R (by omega)), bnd_s]
    cases hb : t.go (hc 0) (hc (i : Int)) with
    | false =>
      rw [if_pos (show bi false = 0 from rfl), B77_2, w32_i (by omega) (by omega)]
      simp only [hb] at ih
      exact ih
    | true =>
      rw [if_neg (show ¬ bi true = 0 from by decide), B77_2, w32_i (x := _ + 1) (by omega) (by omega), w32_i (x := _ + 1) (by omega) (by omega)]
      simp only [hb] at ih
      exact ih
theorem howManyGo_e (d : Nat) {t : Tn} {μ : amM} (h : TC 2 t μ) : RD cr2 (d + 4) 77 [2] μ = some ((cntB (fun x => t.go (hc 0) (hc x)) 81 : Int), μ) := by
  rw [M77]
  exact howGo_loop d h 81 0 rfl
theorem goer_loop (d : Nat) {t : Tn} {μ : amM} (h : TC 2 t μ) {c : Int} (hc' : 0 ≤ c ∧ c < 256) : ∀ (n x : Nat) (i : Int), x + n = 81 → 0 ≤ i → i < 2147483648 → At cr2 (d + 3) 78 1 [] [2, 0, 0, c, i, (x : Int)] μ = some (sel (fun y => t.go c (hc y)) 0 n x i, μ)
  | 0, x, i, hx, h0, h1 => by
    rw [B78_1, if_neg (by omega), B78_4]
    rfl
  | n + 1, x, i, hx, h0, h1 => by
    rw [B78_1, if_pos (by omega), codeOf_e (d + 2) μ (by omega), bnd_s, doGo_e d h hc' (hc_R (by omega)), bnd_s]
    unfold sel
    cases hb : t.go c (hc (x : Int)) with
    | false =>
      rw [if_pos (show bi false = 0 from rfl), B78_3, w32_i (by omega) (by omega)]
      exact goer_loop d h hc' n (x + 1) i (by omega) h0 h1
    | true =>
      rw [if_neg (show ¬ bi true = 0 from by decide), if_pos rfl]
      by_cases hi : i = 0
      · rw [if_pos hi, if_pos hi]
      · rw [if_neg hi, if_neg hi, B78_2, B78_3, w32_i (x := i + -1) (by omega) (by omega), w32_i (x := _ + 1) (by omega) (by omega)]
        exact goer_loop d h hc' n (x + 1) (i - 1) (by omega) (by omega) (by omega)
theorem goerAt_e (d : Nat) {t : Tn} {μ : amM} (h : TC 2 t μ) {x i : Int} (hx : 0 ≤ x ∧ x < 81) (h0 : 0 ≤ i) (h1 : i < 2147483648) : RD cr2 (d + 4) 78 [2, x, i] μ = some (sel (fun y => t.go (hc x) (hc y)) 0 81 0 i, μ) := by
  rw [M78, codeOf_e (d + 2) μ hx, bnd_s]
  exact goer_loop d h (hc_R hx) 81 0 i rfl h0 h1
/-- how many of a lot's pairs are wrong -/
def Tn.wat (t : Tn) (lot : Nat) : Nat := ((t.nb lot).filter (fun o => t.wrong lot o)).length
theorem wat_loop (d : Nat) {t : Tn} {μ : amM} (ok : t.Ok) (h : TC 2 t μ) {lot : Nat} (hl : lot < t.lots) : ∀ (n i a : Nat), i + n = (t.nb lot).length → a ≤ i → At cr2 (d + 4) 80 1 [] [2, (lot : Int), (a : Int), (i : Int)] μ = some (((a + (((t.nb lot).drop i).filter (fun o => t.wrong lot o)).length : Nat) : Int), μ)
  | 0, i, a, hi, ha => by
    have h64 := ok.le.2
    rw [B80_1, rd_p (by omega) (by omega), Int.toNat_natCast, (h.2.2 lot hl).1, if_neg (by omega), B80_3, List.drop_eq_nil_of_le (by omega)]
    rfl
  | n + 1, i, a, hi, ha => by
    have h64 := ok.le.2
    have hn := ok.nbs hl
    have hil : i < (t.nb lot).length := by omega
    have ho := hn.2 _ (getD_mem 0 hil)
    rw [B80_1, rd_p (by omega) (by omega), Int.toNat_natCast, (h.2.2 lot hl).1, if_pos (by omega), w32_i (x := (lot : Int) * 4) (by omega) (by omega), w32_i (x := (lot : Int) * 4 + i) (by omega) (by omega), rd_p (by omega) (by omega), show ((lot : Int) * 4 + i).toNat = 4 * lot + i by omega, (h.2.2 lot hl).2 i hil, isWrong_e d ok h hl ho.1, bnd_s, drop_getD 0 hil]
    cases hb : t.wrong lot ((t.nb lot).getD i 0) with
    | false =>
      rw [if_pos (show bi false = 0 from rfl), B80_2, w32_i (by omega) (by omega), List.filter_cons_of_neg (by rw [hb]; decide)]
      exact wat_loop d ok h hl n (i + 1) a (by omega) (by omega)
    | true =>
      rw [if_neg (show ¬ bi true = 0 from by decide), B80_2, w32_i (x := _ + 1) (by omega) (by omega), w32_i (x := _ + 1) (by omega) (by omega), List.filter_cons_of_pos hb, List.length_cons]
      rw [show a + ((((t.nb lot).drop (i + 1)).filter (fun o => t.wrong lot o)).length + 1) = (a + 1) + (((t.nb lot).drop (i + 1)).filter (fun o => t.wrong lot o)).length by omega]
      exact wat_loop d ok h hl n (i + 1) (a + 1) (by omega) (by omega)
theorem howManyWrongAt_e (d : Nat) {t : Tn} {μ : amM} (ok : t.Ok) (h : TC 2 t μ) {lot : Nat} (hl : lot < t.lots) : RD cr2 (d + 5) 80 [2, (lot : Int)] μ = some ((t.wat lot : Int), μ) := by
  rw [M80]
  have := wat_loop d ok h hl _ 0 0 (Nat.zero_add _) (Nat.le_refl _)
  rw [List.drop_zero, Nat.zero_add] at this
  exact this
def Tn.lawful (t : Tn) (lot k : Nat) (s w : Int) : Bool := t.can lot k s && ((w == 0) || ((t.wat lot : Int) == w)) && t.may lot (ws (t.code lot) k s)
theorem isLawful_e (d : Nat) {t : Tn} {μ : amM} (ok : t.Ok) (h : TC 2 t μ) {lot k : Nat} (hl : lot < t.lots) (hk : k < 4) {s : Int} (hs : 0 ≤ s ∧ s < 4) (w : Int) : RD cr2 (d + 6) 81 [2, (lot : Int), (k : Int), s, w] μ = some (bi (t.lawful lot k s w), μ) := by
  have h64 := ok.le.2
  rw [M81, canChange_e (d + 3) ok h hl hk s, bnd_s]
  unfold Tn.lawful
  cases hc1 : t.can lot k s with
  | false => rw [if_pos (show bi false = 0 from rfl), B81_2, B81_3]; rfl
  | true =>
    have hb : t.bound lot = true := by
      unfold Tn.can at hc1
      rw [Bool.and_eq_true] at hc1
      exact hc1.1
    have nb := Tn.bound_ne hb
    have hcd := ((ok.2 lot hl).2 nb).2.2
    have last : At cr2 (d + 5) 81 1 [] [2, (lot : Int), (k : Int), s, 0] μ = some (bi (t.may lot (ws (t.code lot) k s)), μ) := by
      rw [B81_1, rd_p (by omega) (by omega), Int.toNat_natCast, ((h.2.1 lot hl).2 nb).2, withSort_e (d + 4) μ hcd (by omega) hs, bnd_s, Int.toNat_natCast, mayStand_e (d + 1) ok h hl (mk_ws hcd hk hs (j := 0) (by decide)).2, bnd_s]
      cases t.may lot (ws (t.code lot) k s) with
      | false => rw [if_pos (show bi false = 0 from rfl), B81_2, B81_3]; rfl
      | true => rw [if_neg (show ¬ bi true = 0 from by decide), B81_3]; rfl
    rw [if_neg (show ¬ bi true = 0 from by decide)]
    by_cases hw : w = 0
    · rw [if_pos hw, last, hw]; rfl
    · rw [if_neg hw, howManyWrongAt_e d ok h hl, bnd_s, beq_false_of_ne hw]
      by_cases h2 : (t.wat lot : Int) = w
      · rw [if_pos h2, last, h2, beq_self_eq_true]; rfl
      · rw [if_neg h2, B81_2, B81_3, beq_false_of_ne h2]; rfl
/-- how many of the lots below n a test takes -/
def cntL (P : Nat → Bool) (n : Nat) : Nat := ((List.range n).filter P).length
theorem cntL_succ (P : Nat → Bool) (n : Nat) : cntL P (n + 1) = cntL P n + (if P n then 1 else 0) := by
  unfold cntL
  rw [List.range_succ, List.filter_append, List.length_append]
  congr 1
  cases h : P n <;> simp [h]
theorem cntL_le (P : Nat → Bool) (n : Nat) : cntL P n ≤ n := by
  unfold cntL
  have := List.length_filter_le P (List.range n)
  rw [List.length_range] at this
  exact this
def Tn.houses (t : Tn) : Nat := cntL (fun lot => !(t.kind lot == -1)) t.lots
theorem houses_loop (d : Nat) {t : Tn} {μ : amM} (ok : t.Ok) (h : TC 2 t μ) : ∀ n i, i + n = t.lots → At cr2 d 68 1 [] [2, (cntL (fun lot => !(t.kind lot == -1)) i : Int), (i : Int)] μ = some ((t.houses : Int), μ)
  | 0, i, hi => by
    have hi : i = t.lots := by omega
    subst hi
    rw [B68_1, h.1.2.2.2.1, if_neg (by omega), B68_3]
    rfl
  | n + 1, i, hi => by
    have h64 := ok.le.2
    have hle := cntL_le (fun lot => !(t.kind lot == -1)) i
    have ih := houses_loop d ok h n (i + 1) (by omega)
    rw [cntL_succ] at ih
    rw [B68_1, h.1.2.2.2.1, if_pos (by omega), rd_p (by omega) (by omega), Int.toNat_natCast, (h.2.1 i (by omega)).1]
    by_cases hb : t.kind i = -1
    · rw [if_pos hb, B68_2, w32_i (by omega) (by omega)]
      rw [hb] at ih
      exact ih
    · rw [if_neg hb, B68_2, w32_i (x := _ + 1) (by omega) (by omega), w32_i (x := _ + 1) (by omega) (by omega)]
      rw [beq_false_of_ne hb] at ih
      exact ih
theorem houses_e (d : Nat) {t : Tn} {μ : amM} (ok : t.Ok) (h : TC 2 t μ) : RD cr2 (d + 1) 68 [2] μ = some ((t.houses : Int), μ) := by
  rw [M68]
  exact houses_loop d ok h _ 0 (Nat.zero_add _)
