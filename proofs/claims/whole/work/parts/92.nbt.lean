/-! ===== the class's search: bits, and what the wrong pairs ask for ===== -/
def b4 (x0 x1 x2 x3 : Bool) : Int := bi x0 + 2 * bi x1 + 4 * bi x2 + 8 * bi x3
def bsel (x0 x1 x2 x3 : Bool) (k : Nat) : Bool := match k with | 0 => x0 | 1 => x1 | 2 => x2 | _ => x3
theorem b4_t : ∀ x0 x1 x2 x3 : Bool, ∀ k : Fin 4, bAnd (bShr (b4 x0 x1 x2 x3) (k.val : Int)) 1 = bi (bsel x0 x1 x2 x3 k.val) ∧ bOr (b4 x0 x1 x2 x3) (bShl 1 (k.val : Int)) = b4 (x0 || k.val == 0) (x1 || k.val == 1) (x2 || k.val == 2) (x3 || k.val == 3) ∧ bAnd (bShr (bXor (b4 x0 x1 x2 x3) (-1)) (k.val : Int)) 1 = bi (!bsel x0 x1 x2 x3 k.val) := by decide +kernel
theorem b4_p : ∀ x0 x1 x2 x3 : Bool, bitx (b4 x0 x1 x2 x3) = bi x0 + bi x1 + bi x2 + bi x3 := by decide +kernel
/-- a house's locked marks -/
def lkm (L : Nat → Bool) (l : Nat) : Int := b4 (L (4 * l)) (L (4 * l + 1)) (L (4 * l + 2)) (L (4 * l + 3))
theorem lkm_t (L : Nat → Bool) (l : Nat) {k : Nat} (hk : k < 4) : bAnd (bShr (lkm L l) (k : Int)) 1 = bi (L (4 * l + k)) := by
  have q := (b4_t (L (4 * l)) (L (4 * l + 1)) (L (4 * l + 2)) (L (4 * l + 3)) ⟨k, hk⟩).1
  refine q.trans ?_
  match k, hk with
  | 0, _ => rfl
  | 1, _ => rfl
  | 2, _ => rfl
  | 3, _ => rfl
theorem lkm_s (L : Nat → Bool) (l : Nat) {k : Nat} (hk : k < 4) : bOr (lkm L l) (bShl 1 (k : Int)) = lkm (lk1 L (4 * l + k)) l := by
  refine (b4_t (L (4 * l)) (L (4 * l + 1)) (L (4 * l + 2)) (L (4 * l + 3)) ⟨k, hk⟩).2.1.trans ?_
  have e : ∀ j, j < 4 → lk1 L (4 * l + k) (4 * l + j) = (L (4 * l + j) || k == j) := fun j hj => by
    unfold lk1
    rw [Bool.or_comm]
    by_cases q : k = j
    · rw [q, beq_self_eq_true, beq_self_eq_true]
    · rw [beq_false_of_ne q, beq_false_of_ne (by omega)]
  unfold lkm
  have e0 := e 0 (by decide)
  rw [Nat.add_zero] at e0
  rw [e0, e 1 (by decide), e 2 (by decide), e 3 (by decide)]
theorem lkm_o (L : Nat → Bool) {l l' k : Nat} (hk : k < 4) (h : l' ≠ l) : lkm (lk1 L (4 * l + k)) l' = lkm L l' := by
  have e : ∀ j, j < 4 → lk1 L (4 * l + k) (4 * l' + j) = L (4 * l' + j) := fun j hj => by
    unfold lk1
    rw [beq_false_of_ne (by omega)]; rfl
  unfold lkm
  have e0 := e 0 (by decide)
  rw [Nat.add_zero] at e0
  rw [e0, e 1 (by decide), e 2 (by decide), e 3 (by decide)]
/-- the marks in which two houses are alike -/
def alm (x y : Int) : Int := b4 (al1 x y 0 == 1) (al1 x y 1 == 1) (al1 x y 2 == 1) (al1 x y 3 == 1)
theorem al1_bi (x y : Int) (k : Nat) : bi (al1 x y k == 1) = al1 x y k := by
  rcases al1_01 x y k with q | q <;> rw [q] <;> rfl
theorem alm_p (x y : Int) : bitx (alm x y) = alk x y := by
  unfold alm
  rw [b4_p, al1_bi, al1_bi, al1_bi, al1_bi]
  rfl
theorem alm_t (x y : Int) {k : Nat} (hk : k < 4) : bAnd (bShr (alm x y) (k : Int)) 1 = bi (al1 x y k == 1) ∧ bAnd (bShr (bXor (alm x y) (-1)) (k : Int)) 1 = bi (al1 x y k == 0) := by
  have q := b4_t (al1 x y 0 == 1) (al1 x y 1 == 1) (al1 x y 2 == 1) (al1 x y 3 == 1) ⟨k, hk⟩
  have n : ∀ j, (!(al1 x y j == 1)) = (al1 x y j == 0) := fun j => by
    rcases al1_01 x y j with q | q <;> rw [q] <;> rfl
  refine ⟨q.1.trans ?_, q.2.2.trans ?_⟩
  · match k, hk with
    | 0, _ => rfl
    | 1, _ => rfl
    | 2, _ => rfl
    | 3, _ => rfl
  · match k, hk with
    | 0, _ => exact congrArg bi (n 0)
    | 1, _ => exact congrArg bi (n 1)
    | 2, _ => exact congrArg bi (n 2)
    | 3, _ => exact congrArg bi (n 3)
theorem alm_step (d : Nat) {x y : Int} (hx : 0 ≤ x ∧ x < 256) (hy : 0 ≤ y ∧ y < 256) (v : Int) {k : Nat} (hk : k < 4) (μ : amM) : At cr2 (d + 1) 21 1 [] [x, y, v, (k : Int), 0] μ = At cr2 (d + 1) 21 1 [] [x, y, if al1 x y k = 1 then bOr v (bShl 1 (k : Int)) else v, ((k + 1 : Nat) : Int), 0] μ := by
  have h1 : (k : Int) < 4 := by omega
  have h0 : 0 ≤ (k : Int) := by omega
  rw [B21_1, if_pos h1, sortAt_e _ _ hx ⟨h0, h1⟩, bnd_s, Int.toNat_natCast]
  unfold al1
  have r := mk_R x k
  have w : w32 ((k : Int) + 1) = ((k + 1 : Nat) : Int) := w32_i (by omega) (by omega)
  by_cases q : mk x k = 3
  · rw [if_pos q, if_neg (show ¬ (if mk x k < 3 ∧ mk x k = mk y k then (1 : Int) else 0) = 1 from by rw [if_neg (by omega)]; decide), B21_2, w]
  · rw [if_neg q, sortAt_e _ _ hy ⟨h0, h1⟩, bnd_s, Int.toNat_natCast]
    by_cases q2 : mk x k = mk y k
    · rw [if_pos q2, if_pos (show (if mk x k < 3 ∧ mk x k = mk y k then (1 : Int) else 0) = 1 from if_pos ⟨by omega, q2⟩), B21_2, w]
    · rw [if_neg q2, if_neg (show ¬ (if mk x k < 3 ∧ mk x k = mk y k then (1 : Int) else 0) = 1 from by rw [if_neg (by omega)]; decide), B21_2, w]
theorem alm_n : ∀ x0 x1 x2 x3 : Bool, (if x3 = true then bOr (if x2 = true then bOr (if x1 = true then bOr (if x0 = true then bOr 0 (bShl 1 0) else 0) (bShl 1 1) else (if x0 = true then bOr 0 (bShl 1 0) else 0)) (bShl 1 2) else (if x1 = true then bOr (if x0 = true then bOr 0 (bShl 1 0) else 0) (bShl 1 1) else (if x0 = true then bOr 0 (bShl 1 0) else 0))) (bShl 1 3) else (if x2 = true then bOr (if x1 = true then bOr (if x0 = true then bOr 0 (bShl 1 0) else 0) (bShl 1 1) else (if x0 = true then bOr 0 (bShl 1 0) else 0)) (bShl 1 2) else (if x1 = true then bOr (if x0 = true then bOr 0 (bShl 1 0) else 0) (bShl 1 1) else (if x0 = true then bOr 0 (bShl 1 0) else 0)))) = b4 x0 x1 x2 x3 := by decide +kernel
theorem alm_e (d : Nat) {x y : Int} (hx : 0 ≤ x ∧ x < 256) (hy : 0 ≤ y ∧ y < 256) (μ : amM) : RD cr2 (d + 2) 21 [x, y] μ = some (alm x y, μ) := by
  rw [M21]
  refine (alm_step d hx hy 0 (k := 0) (by decide) μ).trans ((alm_step d hx hy _ (k := 1) (by decide) μ).trans ((alm_step d hx hy _ (k := 2) (by decide) μ).trans ((alm_step d hx hy _ (k := 3) (by decide) μ).trans ?_)))
  rw [B21_1, if_neg (by decide), B21_3]
  unfold alm
  rw [← alm_n]
  have e : ∀ k, (al1 x y k = 1) = ((al1 x y k == 1) = true) := fun k => by rw [beq_iff_eq]
  simp only [e]
  rfl
/-! sets of lots as bits of a long -/
def BB (x : Int) : BitVec 64 := (Int64.ofInt x).toBitVec
theorem BB_or (a b : Int) : BB (lOr a b) = BB a ||| BB b := by
  unfold BB lOr
  rw [Int64.ofInt_toInt, Int64.toBitVec_or]
theorem BB_shl_n : ((List.range 64).all fun l => decide ((Int64.ofInt (lShl 1 (l : Int))).toBitVec = BitVec.twoPow 64 l)) = true := by decide +kernel
theorem BB_shl {l : Nat} (h : l < 64) : BB (lShl 1 (l : Int)) = BitVec.twoPow 64 l := of_decide_eq_true (List.all_eq_true.mp BB_shl_n l (List.mem_range.mpr h))
theorem BB_and0 (a b : Int) : lAnd a b = 0 ↔ BB a &&& BB b = 0#64 := by
  unfold lAnd BB
  rw [← Int64.toBitVec_and]
  constructor
  · intro h
    exact BitVec.toInt_inj.mp h
  · intro h
    show BitVec.toInt _ = 0
    rw [h]; rfl
def UB (x : Int) (U : Nat → Bool) : Prop := ∀ l, l < 64 → (BB x).getLsbD l = U l
theorem UB_0 : UB 0 (fun _ => false) := fun l _ => by
  show (0#64).getLsbD l = false
  exact BitVec.getLsbD_zero
theorem UB_hit {x : Int} {U : Nat → Bool} (h : UB x U) {a b : Nat} (ha : a < 64) (hb : b < 64) : lAnd x (lOr (lShl 1 (a : Int)) (lShl 1 (b : Int))) = 0 ↔ ¬ (U a = true ∨ U b = true) := by
  rw [BB_and0, BB_or, BB_shl ha, BB_shl hb]
  constructor
  · intro e w
    have g : ∀ i, (BB x &&& (BitVec.twoPow 64 a ||| BitVec.twoPow 64 b)).getLsbD i = false := fun i => by rw [e, BitVec.getLsbD_zero]
    rcases w with w | w
    · have := g a
      rw [BitVec.getLsbD_and, h a ha, w, BitVec.getLsbD_or, BitVec.getLsbD_twoPow] at this
      simp [ha] at this
    · have := g b
      rw [BitVec.getLsbD_and, h b hb, w, BitVec.getLsbD_or, BitVec.getLsbD_twoPow, BitVec.getLsbD_twoPow] at this
      simp [hb] at this
  · intro w
    refine BitVec.eq_of_getLsbD_eq (fun i hi => ?_)
    rw [BitVec.getLsbD_and, h i hi, BitVec.getLsbD_or, BitVec.getLsbD_twoPow, BitVec.getLsbD_twoPow, BitVec.getLsbD_zero]
    cases u : U i with
    | false => rfl
    | true =>
      have n1 : a ≠ i := fun e => w (Or.inl (by rw [e]; exact u))
      have n2 : b ≠ i := fun e => w (Or.inr (by rw [e]; exact u))
      rw [decide_eq_false n1, decide_eq_false n2]
      simp
theorem UB_add {x : Int} {U : Nat → Bool} (h : UB x U) {p : Nat × Nat} (ha : p.1 < 64) (hb : p.2 < 64) : UB (lOr x (lOr (lShl 1 (p.1 : Int)) (lShl 1 (p.2 : Int)))) (us2 U p) := fun l hl => by
  rw [BB_or, BB_or, BB_shl ha, BB_shl hb, BitVec.getLsbD_or, BitVec.getLsbD_or, h l hl, BitVec.getLsbD_twoPow, BitVec.getLsbD_twoPow]
  unfold us2
  rw [decide_eq_true ha, decide_eq_true hb, Bool.true_and, Bool.true_and, Bool.or_assoc]
  congr 1
  rw [show (l == p.1) = decide (p.1 = l) from by
    by_cases e : p.1 = l
    · rw [e, beq_self_eq_true, decide_eq_true rfl]
    · rw [beq_false_of_ne (Ne.symm e), decide_eq_false e], show (l == p.2) = decide (p.2 = l) from by
    by_cases e : p.2 = l
    · rw [e, beq_self_eq_true, decide_eq_true rfl]
    · rw [beq_false_of_ne (Ne.symm e), decide_eq_false e]]
