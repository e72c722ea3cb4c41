/-! ===== how a row was before: both are the same number ===== -/
theorem sm_ad (B S u : Nat → Int) (c : Int) : ∀ m, sm m (fun j => B j * (S j + c * u j)) = sm m (fun j => B j * S j) + c * sm m (fun j => B j * u j)
  | 0 => by
    show (0 : Int) = 0 + c * 0
    rw [Int.mul_zero]; rfl
  | m + 1 => by
    show sm m _ + B m * (S m + c * u m) = (sm m _ + B m * S m) + c * (sm m _ + B m * u m)
    rw [sm_ad B S u c m, Int.mul_add, Int.mul_add, Int.mul_left_comm (B m) c (u m)]
    generalize sm m (fun j => B j * S j) = a1
    generalize c * sm m (fun j => B j * u j) = a2
    generalize B m * S m = a3
    generalize c * (B m * u m) = a4
    omega
theorem sm_lin (B : Nat → Int) (m : Nat) (c : Nat → Int) (u : Nat → Nat → Int) : ∀ F, sm m (fun j => B j * sm F (fun f => c f * u f j)) = sm F (fun f => c f * sm m (fun j => B j * u f j))
  | 0 => by
    show sm m (fun j => B j * 0) = 0
    rw [sm_congr m (g := fun _ => 0) (fun j _ => Int.mul_zero _), sm_zero]
  | F + 1 => by
    show sm m (fun j => B j * (sm F (fun f => c f * u f j) + c F * u F j)) = sm F _ + c F * _
    rw [sm_ad B (fun j => sm F (fun f => c f * u f j)) (u F) (c F) m, sm_lin B m c u F]
theorem wk_lin (t : Tn) (n F : Nat) (c : Nat → Int) : ∀ (k L : Nat) (u : Nat → Nat → Int), t.wk n k L (fun a => sm F (fun f => c f * u f a)) = fun j => sm F (fun f => c f * t.wk n k L (u f) j)
  | 0, _, _ => rfl
  | k + 1, L, u => by
    have e : t.cx (L : Int) ((nl n L : Nat) : Int) (fun a => sm F (fun f => c f * u f a)) = fun i => sm F (fun f => c f * t.cx (L : Int) ((nl n L : Nat) : Int) (u f) i) := by
      funext i
      exact sm_lin (fun j => bi (t.TT (L : Int) ((nl n L : Nat) : Int) j i)) _ c u F
    show t.wk n k (nl n L) (t.cx (L : Int) ((nl n L : Nat) : Int) (fun a => sm F (fun f => c f * u f a))) = _
    rw [e, wk_lin t n F c k (nl n L) (fun f => t.cx (L : Int) ((nl n L : Nat) : Int) (u f))]
    rfl
theorem wk_congr (t : Tn) (n : Nat) {L : Nat} {v v' : Nat → Int} (h : ∀ a, a < t.opt (L : Int) → v a = v' a) : ∀ (k : Nat) {j : Nat}, j < t.opt ((en n k L : Nat) : Int) → t.wk n k L v j = t.wk n k L v' j
  | 0, j, hj => h j hj
  | k + 1, j, hj => by
    show t.wk n k (nl n L) (t.cx (L : Int) ((nl n L : Nat) : Int) v) j = t.wk n k (nl n L) (t.cx (L : Int) ((nl n L : Nat) : Int) v') j
    rw [show t.cx (L : Int) ((nl n L : Nat) : Int) v = t.cx (L : Int) ((nl n L : Nat) : Int) v' from funext (fun i => sm_congr _ (fun a ha => by rw [h a ha]))]
theorem wk_app (t : Tn) (n b : Nat) : ∀ (a L : Nat) (v : Nat → Int), t.wk n (a + b) L v = t.wk n b (en n a L) (t.wk n a L v)
  | 0, L, v => by rw [Nat.zero_add]; rfl
  | a + 1, L, v => by
    rw [show a + 1 + b = (a + b) + 1 by omega]
    exact wk_app t n b a (nl n L) _
theorem en_app (n b : Nat) : ∀ (a L : Nat), en n (a + b) L = en n b (en n a L)
  | 0, L => by rw [Nat.zero_add]; rfl
  | a + 1, L => by
    rw [show a + 1 + b = (a + b) + 1 by omega]
    exact en_app n b a (nl n L)
theorem en_up {n : Nat} : ∀ (k L : Nat), L + k < n → en n k L = L + k
  | 0, L, _ => rfl
  | k + 1, L, h => by
    show en n k (nl n L) = _
    rw [nl_s (by omega), en_up k (L + 1) (by omega)]
    omega
theorem nl_0 {n L : Nat} (h : L + 1 = n) : nl n L = 0 := if_neg (by omega)
theorem en_0 {n s : Nat} (h : s < n) : en n (n - s) s = 0 := by
  rw [show n - s = (n - s - 1) + 1 by omega, en_app, en_up (n - s - 1) s (by omega)]
  exact nl_0 (n := n) (L := s + (n - s - 1)) (by omega)
theorem sm_dlt (c : Nat → Int) (a : Nat) : ∀ F, sm F (fun f => c f * dlt f a) = if a < F then c a else 0
  | 0 => (if_neg (by omega)).symm
  | F + 1 => by
    show sm F _ + c F * dlt F a = _
    rw [sm_dlt c a F]
    unfold dlt
    by_cases q : a = F
    · rw [if_neg (by omega), if_pos q, if_pos (by omega), q, Int.mul_one, Int.zero_add]
    · rw [if_neg q, Int.mul_zero, Int.add_zero]
      by_cases q2 : a < F
      · rw [if_pos q2, if_pos (by omega)]
      · rw [if_neg q2, if_neg (by omega)]
theorem sm_swap (m F : Nat) (u : Nat → Nat → Int) : sm m (fun j => sm F (fun f => u f j)) = sm F (fun f => sm m (fun j => u f j)) := by
  have e := sm_lin (fun _ => 1) m (fun _ => 1) u F
  simp only [Int.one_mul] at e
  exact e
/-- in a line -/
theorem bef_line {t : Tn} (k : Nat) : t.ways 0 k = sm (t.opt ((0 : Nat) : Int)) (fun f => sm (t.opt ((en t.lots k 0 : Nat) : Int)) (fun j => t.wk t.lots k 0 (dlt f) j)) := by
  unfold Tn.ways
  rw [← sm_swap]
  refine sm_congr _ (fun j hj => ?_)
  rw [wk_congr t t.lots (v' := fun a => sm (t.opt ((0 : Nat) : Int)) (fun f => 1 * dlt f a)) (fun a ha => by rw [sm_dlt (fun _ => 1) a, if_pos ha]) k hj, wk_lin]
  exact sm_congr _ (fun f _ => Int.one_mul _)
theorem cx_any {t : Tn} {L L' : Int} (h : t.any L = true) (h' : t.any L' = true) (v : Nat → Int) (i : Nat) : t.cx L L' v i = t.nx v i := by
  unfold Tn.cx Tn.nx
  rw [opt_t h]
  refine sm_congr 81 (fun j _ => ?_)
  unfold Tn.TT Tn.G Tn.lk
  rw [cc_t h, cc_t h', h, h', Bool.true_or, Bool.true_or, Bool.true_and, Bool.not_true, Bool.false_or]
theorem wk_any {t : Tn} {n : Nat} (hn : 0 < n) (h : ∀ k, k < n → t.any (k : Int) = true) : ∀ (k L : Nat) (v : Nat → Int), L < n → t.wk n k L v = t.nxs k v
  | 0, _, _, _ => rfl
  | k + 1, L, v, hL => by
    show t.wk n k (nl n L) (t.cx (L : Int) ((nl n L : Nat) : Int) v) = t.nxs k (t.nx v)
    rw [wk_any hn h k (nl n L) _ (nl_lt hn), show t.cx (L : Int) ((nl n L : Nat) : Int) v = t.nx v from funext (fun i => cx_any (h L hL) (h _ (nl_lt hn)) v i)]
/-- round about: from the first lot, and from any house's -/
theorem bef_ring {t : Tn} {s : Nat} (hs : s < t.lots) (h : t.any (s : Int) = false) : t.wk t.lots t.lots s (fun _ => 1) 0 = sm (t.opt ((0 : Nat) : Int)) (fun f => t.wk t.lots t.lots 0 (dlt f) f) := by
  have e0 := en_0 hs
  have es : en t.lots s 0 = s := by rw [en_up s 0 (by omega)]; omega
  have h1 := opt_f h
  have split : ∀ f, t.wk t.lots t.lots 0 (dlt f) = t.wk t.lots (t.lots - s) s (t.wk t.lots s 0 (dlt f)) := fun f => by
    have := wk_app t t.lots (t.lots - s) s 0 (dlt f)
    rw [show s + (t.lots - s) = t.lots by omega, es] at this
    exact this
  have left : t.wk t.lots t.lots s (fun _ => 1) 0 = sm (t.opt ((0 : Nat) : Int)) (fun f => t.wk t.lots (t.lots - s) s (fun _ => 1) f * t.wk t.lots s 0 (dlt f) 0) := by
    have := wk_app t t.lots s (t.lots - s) s (fun _ => 1)
    rw [show t.lots - s + s = t.lots by omega, e0] at this
    rw [this, wk_congr t t.lots (L := 0) (v' := fun a => sm (t.opt ((0 : Nat) : Int)) (fun f => t.wk t.lots (t.lots - s) s (fun _ => 1) f * dlt f a)) (fun a ha => by rw [sm_dlt, if_pos ha]) s (j := 0) (by rw [es, h1]; decide), wk_lin]
  rw [left]
  refine sm_congr _ (fun f hf => ?_)
  rw [split f, wk_congr t t.lots (L := s) (v := t.wk t.lots s 0 (dlt f)) (v' := fun a => sm 1 (fun g => (fun _ => t.wk t.lots s 0 (dlt f) 0) g * (fun _ _ => (1 : Int)) g a)) (fun a ha => by
    rw [h1] at ha
    rw [show a = 0 by omega]
    show _ = 0 + t.wk t.lots s 0 (dlt f) 0 * 1
    omega) (t.lots - s) (j := f) (by rw [e0]; exact hf), wk_lin]
  show _ = 0 + t.wk t.lots s 0 (dlt f) 0 * _
  rw [Int.zero_add, Int.mul_comm]
theorem bef_eq {t : Tn} (ok : t.Ok) : t.befV = w64 (sm (t.opt ((0 : Nat) : Int)) t.one) := by
  have h64 := ok.le
  have en1 : en t.lots (t.lots - 1) 0 = t.lots - 1 := by rw [en_up _ 0 (by omega)]; omega
  unfold Tn.befV
  cases hR : t.isR with
  | false =>
    rw [cond_false, bef_line, en1]
    refine congrArg w64 (sm_congr _ (fun f _ => sm_congr _ (fun j _ => ?_)))
    unfold Tn.gl
    rw [hR, cond_false, Int.one_mul]
  | true =>
    have last : ∀ f, t.one f = t.wk t.lots t.lots 0 (dlt f) f := fun f => by
      have := wk_app t t.lots 1 (t.lots - 1) 0 (dlt f)
      rw [show t.lots - 1 + 1 = t.lots by omega, en1] at this
      rw [this]
      show _ = t.cx ((t.lots - 1 : Nat) : Int) ((nl t.lots (t.lots - 1) : Nat) : Int) _ f
      rw [nl_0 (by omega)]
      unfold Tn.one Tn.cx
      refine sm_congr _ (fun j _ => ?_)
      unfold Tn.gl
      rw [hR, cond_true]
    rw [cond_true]
    rcases fh_lt t t.lots 0 with ⟨f1, f2⟩ | ⟨s, f1, -, f3, f4⟩
    · rw [if_pos f1]
      have an : ∀ k, k < t.lots → t.any (k : Int) = true := fun k hk => by
        rw [any_l, f2 k (by omega) (by omega)]; rfl
      rw [← ring_all, opt_t (an 0 (by omega))]
      refine congrArg w64 (sm_congr _ (fun f _ => ?_))
      rw [last, wk_any (by omega) an _ _ _ (by omega)]
    · have an : t.any (s : Int) = false := by
        rw [any_l]
        exact beq_false_of_ne f4
      have es : en t.lots t.lots s = s := by
        have := en_app t.lots s (t.lots - s) s
        rw [show t.lots - s + s = t.lots by omega, en_0 (by omega), en_up s 0 (by omega)] at this
        rw [this]; omega
      rw [f1, if_neg (by omega), Int.toNat_natCast]
      unfold Tn.ways
      rw [es, opt_f an]
      show w64 (0 + t.wk t.lots t.lots s (fun _ => 1) 0) = _
      rw [Int.zero_add, bef_ring (by omega) an]
      exact congrArg w64 (sm_congr _ (fun f _ => (last f).symm))
theorem before_m (d : Nat) {σ : St} {μ : amM} (ok : σ.Ok) (h : MI σ μ) : OM μ (RD cr2 (d + 20) 226 [71] μ) (beforeS σ) := by
  have e := before_m0 d ok h
  rw [← bef_eq ok.t] at e
  exact e
