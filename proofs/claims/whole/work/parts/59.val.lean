/-! ===== the class works out a text ===== -/
def isTx (c : Nat) : Prop := c = 13 ∨ c = 16
theorem tx_0 {c : Nat} (h : isTx c) {μ : amM} {f : Int → amR} : amGf cr2 μ 3 0 (c : Int) f = f ((c + 1 : Nat) : Int) := by
  rcases h with rfl | rfl
  · exact gf0 (ci := 3) (k := 0) (x := 13) (v := 14) rfl rfl
  · exact gf0 (ci := 3) (k := 0) (x := 16) (v := 17) rfl rfl
theorem tx_1 {c : Nat} (h : isTx c) {μ : amM} {f : Int → amR} : amGf cr2 μ 3 1 (c : Int) f = f ((c + 2 : Nat) : Int) := by
  rcases h with rfl | rfl
  · exact gf0 (ci := 3) (k := 1) (x := 13) (v := 15) rfl rfl
  · exact gf0 (ci := 3) (k := 1) (x := 16) (v := 18) rfl rfl
theorem tx_2 {c : Nat} (h : isTx c) {μ : amM} {f : Int → amR} : amGf cr2 μ 3 2 (c : Int) f = f (μ c 2) := by
  rcases h with rfl | rfl
  · exact gf1 (ci := 3) (k := 2) (x := 13) rfl rfl (by decide)
  · exact gf1 (ci := 3) (k := 2) (x := 16) rfl rfl (by decide)
theorem tx_a1 {c : Nat} (h : isTx c) : amTg ((c + 1 : Nat) : Int) = 20 ∧ amLn ((c + 1 : Nat) : Int) = (50 : Nat) := by rcases h with rfl | rfl <;> exact ⟨rfl, rfl⟩
theorem tx_a2 {c : Nat} (h : isTx c) : amTg ((c + 2 : Nat) : Int) = 20 ∧ amLn ((c + 2 : Nat) : Int) = (51 : Nat) := by rcases h with rfl | rfl <;> exact ⟨rfl, rfl⟩
theorem miss_e (d : Nat) {c u : Nat} (hc : isTx c) {l : List Int} {μ : amM} (h : TX c u l μ) : RD cr2 (d + 1) 54 [(c : Int)] μ = some (bi ((cmp u l).length == 0), μ) := by
  rw [M54, tx_2 hc, h.1]
  by_cases q : (cmp u l).length = 0
  · rw [if_pos (by omega), B54_2, q]; rfl
  · rw [if_neg (by omega), B54_1, B54_2, beq_false_of_ne q]; rfl
theorem named_e (d : Nat) (x a b c e : Int) (μ : amM) (hx : 0 ≤ x) : RD cr2 (d + 1) 59 [x, a, b, c, e] μ = some (nv4 a b c e x.toNat, μ) := by
  obtain ⟨n, rfl⟩ := Int.eq_ofNat_of_zero_le hx
  rw [M59, Int.toNat_natCast]
  match n with
  | 0 => rw [if_pos (by decide), B59_1]; rfl
  | 1 => rw [if_neg (by decide), if_pos (by decide), B59_2]; rfl
  | 2 => rw [if_neg (by decide), if_neg (by decide), if_pos (by decide), B59_3]; rfl
  | n + 3 => rw [if_neg (by omega), if_neg (by omega), if_neg (by omega), B59_4]; rfl
theorem worked_e (d : Nat) (s a b : Int) (μ : amM) : RD cr2 (d + 1) 60 [s, a, b] μ = some (wrk s a b, μ) := by
  unfold wrk
  rw [M60]
  by_cases q38 : s = 38
  · rw [if_pos q38, B60_5, if_neg (show ¬ s = 124 by omega), if_pos q38]
    by_cases q1 : a = 0
    · rw [if_pos q1, if_neg (fun w => w.1 q1), B60_6, B60_7]
    · by_cases q2 : b = 0
      · rw [if_neg q1, if_pos q2, if_neg (fun w => w.2 q2), B60_6, B60_7]
      · rw [if_neg q1, if_neg q2, if_pos ⟨q1, q2⟩, B60_7]
  rw [if_neg q38]
  by_cases q42 : s = 42
  · rw [if_pos q42, B60_19, if_neg (show ¬ s = 124 by omega), if_neg q38, if_neg (show ¬ s = 60 by omega), if_neg (show ¬ s = 61 by omega), if_neg (show ¬ s = 62 by omega), if_neg (show ¬ s = 43 by omega), if_neg (show ¬ s = 45 by omega), if_pos q42]
  rw [if_neg q42]
  by_cases q43 : s = 43
  · rw [if_pos q43, B60_17, if_neg (show ¬ s = 124 by omega), if_neg q38, if_neg (show ¬ s = 60 by omega), if_neg (show ¬ s = 61 by omega), if_neg (show ¬ s = 62 by omega), if_pos q43]
  rw [if_neg q43]
  by_cases q45 : s = 45
  · rw [if_pos q45, B60_18, if_neg (show ¬ s = 124 by omega), if_neg q38, if_neg (show ¬ s = 60 by omega), if_neg (show ¬ s = 61 by omega), if_neg (show ¬ s = 62 by omega), if_neg q43, if_pos q45]
  rw [if_neg q45]
  by_cases q47 : s = 47
  · rw [if_pos q47, B60_20, if_neg (show ¬ s = 124 by omega), if_neg q38, if_neg (show ¬ s = 60 by omega), if_neg (show ¬ s = 61 by omega), if_neg (show ¬ s = 62 by omega), if_neg q43, if_neg q45, if_neg q42, if_pos q47]
    by_cases q : b = 0
    · rw [if_pos q, if_pos q, B60_22]
    · rw [if_neg q, if_neg q, B60_21, if_neg q, B60_22]
  rw [if_neg q47]
  by_cases q60 : s = 60
  · rw [if_pos q60, B60_8, if_neg (show ¬ s = 124 by omega), if_neg q38, if_pos q60]
    by_cases q : a < b
    · rw [if_pos q, if_pos q, B60_10]
    · rw [if_neg q, if_neg q, B60_9, B60_10]
  rw [if_neg q60]
  by_cases q61 : s = 61
  · rw [if_pos q61, B60_11, if_neg (show ¬ s = 124 by omega), if_neg q38, if_neg q60, if_pos q61]
    by_cases q : a = b
    · rw [if_pos q, if_pos q, B60_13]
    · rw [if_neg q, if_neg q, B60_12, B60_13]
  rw [if_neg q61]
  by_cases q62 : s = 62
  · rw [if_pos q62, B60_14, if_neg (show ¬ s = 124 by omega), if_neg q38, if_neg q60, if_neg q61, if_pos q62]
    by_cases q : b < a
    · rw [if_pos q, if_pos q, B60_16]
    · rw [if_neg q, if_neg q, B60_15, B60_16]
  rw [if_neg q62]
  by_cases q124 : s = 124
  · rw [if_pos q124, B60_1, if_pos q124]
    by_cases q1 : a = 0
    · by_cases q2 : b = 0
      · rw [if_pos q1, if_pos q2, if_neg (by omega), B60_3, B60_4]
      · rw [if_pos q1, if_neg q2, if_pos (Or.inr q2), B60_2, B60_4]
    · rw [if_neg q1, if_pos (Or.inl q1), B60_2, B60_4]
  rw [if_neg q124, B60_23, if_neg q124, if_neg q38, if_neg q60, if_neg q61, if_neg q62, if_neg q43, if_neg q45, if_neg q42, if_neg q47]
  by_cases q : b = 0
  · rw [if_pos q, if_pos q, B60_25]
  · rw [if_neg q, if_neg q, B60_24, if_neg q, B60_25]
def STv (c c' _ : Nat) : Bool := Nat.beq c' (c + 2)
/-- the stack in its cell -/
def SK (c : Nat) (st : List Int) (μ : amM) : Prop := ∀ j, j < st.length → μ (c + 2) j = st.getD (st.length - 1 - j) 0
theorem SK.push {c : Nat} {st : List Int} {μ : amM} (h : SK c st μ) (v : Int) : SK c (v :: st) (up μ (c + 2) st.length v) := by
  intro j hj
  rw [List.length_cons] at hj ⊢
  rw [up_if]
  by_cases e : j = st.length
  · rw [if_pos e, e, show st.length + 1 - 1 - st.length = 0 by omega]; rfl
  · rw [if_neg e, show st.length + 1 - 1 - j = (st.length - 1 - j) + 1 by omega, List.getD_cons_succ]
    exact h j (by omega)
theorem SK.tail {c : Nat} {x : Int} {st : List Int} {μ : amM} (h : SK c (x :: st) μ) : SK c st μ := by
  intro j hj
  have := h j (by rw [List.length_cons]; omega)
  rw [List.length_cons, show st.length + 1 - 1 - j = (st.length - 1 - j) + 1 by omega, List.getD_cons_succ] at this
  exact this
theorem SK.top {c : Nat} {x : Int} {st : List Int} {μ : amM} (h : SK c (x :: st) μ) : μ (c + 2) st.length = x := by
  have := h st.length (by rw [List.length_cons]; omega)
  rw [List.length_cons, show st.length + 1 - 1 - st.length = 0 by omega] at this
  exact this
theorem val_loop (d : Nat) {c : Nat} (hc : isTx c) {ps : List Int} (hl : ps.length ≤ 50) {a b e g : Int} : ∀ (l : List Int) (i : Nat) (st : List Int) (μ : amM), ps.drop i = l → i ≤ ps.length → (μ c 2 = (ps.length : Int) ∧ ∀ i, i < ps.length → μ (c + 1) i = ps.getD i 0) → SK c st μ → st.length ≤ i → (∀ p ∈ l, -1000000 ≤ p ∧ p < 1000000) → ∃ μ', At cr2 (d + 1) 58 1 [] [(c : Int), a, b, e, g, (st.length : Int) - 1, (i : Int), 0] μ = At cr2 (d + 1) 58 9 [] [(c : Int), 0, 0, 0, 0, 0, 0, 0] μ' ∧ SK c (evl (nv4 a b e g) l st) μ' ∧ same (STv c) μ μ'
  | [], i, st, μ, hd', hi, ht, hs, hsl, hR => by
    have hi : i = ps.length := by
      have := congrArg List.length hd'
      rw [List.length_drop, List.length_nil] at this
      omega
    subst hi
    rw [B58_1, tx_2 hc, ht.1, if_neg (by omega)]
    exact ⟨μ, rfl, hs, same.rf⟩
  | p :: l, i, st, μ, hd', hi, ht, hs, hsl, hR => by
    have hil : i < ps.length := by
      have := congrArg List.length hd'
      rw [List.length_drop, List.length_cons] at this
      omega
    have hp : ps.getD i 0 = p ∧ ps.drop (i + 1) = l := by
      rw [drop_getD 0 hil] at hd'
      exact ⟨(List.cons.inj hd').1, (List.cons.inj hd').2⟩
    have hpR := hR p (List.mem_cons_self ..)
    have hR2 : ∀ q ∈ l, -1000000 ≤ q ∧ q < 1000000 := fun q hq => hR q (List.mem_cons_of_mem _ hq)
    have keep : ∀ (μ' : amM), same (STv c) μ μ' → (μ' c 2 = (ps.length : Int) ∧ ∀ i, i < ps.length → μ' (c + 1) i = ps.getD i 0) := fun μ' h => ⟨(h _ _ (by unfold STv; exact beq_f (by omega))).trans ht.1, fun i hi => (h _ _ (by unfold STv; exact beq_f (by omega))).trans (ht.2 i hi)⟩
    have tS : ∀ (μ : amM) (j : Nat) (v : Int), same (STv c) μ (up μ (c + 2) j v) := fun μ j v => same.rf.up (by unfold STv; exact Nat.beq_refl _)
    -- behind a part
    have go : ∀ (st' : List Int) (μ' : amM), same (STv c) μ μ' → SK c st' μ' → st'.length ≤ i + 1 → ∃ μ2, At cr2 (d + 1) 58 8 [] [(c : Int), a, b, e, g, (st'.length : Int) - 1, (i : Int), 0] μ' = At cr2 (d + 1) 58 9 [] [(c : Int), 0, 0, 0, 0, 0, 0, 0] μ2 ∧ SK c (evl (nv4 a b e g) l st') μ2 ∧ same (STv c) μ μ2 := fun st' μ' h1 h2 h3 => by
      rw [B58_8, w32_i (by omega) (by omega)]
      obtain ⟨μ2, g1, g2, g3⟩ := val_loop d hc hl l (i + 1) st' μ' hp.2 (by omega) (keep μ' h1) h2 h3 hR2
      exact ⟨μ2, g1, g2, h1.tr g3⟩
    rw [B58_1, tx_2 hc, ht.1, if_pos (by omega), tx_0 hc, aldL (tx_a1 hc) (by omega) (by omega), Int.toNat_natCast, ht.2 i hil, hp.1]
    unfold evl
    by_cases q : p < 20000
    · have pushed : ∀ v, ∃ μ2, At cr2 (d + 1) 58 3 [v, (st.length : Int), ((c + 2 : Nat) : Int)] [(c : Int), a, b, e, g, (st.length : Int), (i : Int), 0] μ = At cr2 (d + 1) 58 9 [] [(c : Int), 0, 0, 0, 0, 0, 0, 0] μ2 ∧ SK c (evl (nv4 a b e g) l (v :: st)) μ2 ∧ same (STv c) μ μ2 := fun v => by
        have := go (v :: st) _ (tS μ st.length v) (hs.push v) (by rw [List.length_cons]; omega)
        rw [List.length_cons, show ((st.length + 1 : Nat) : Int) - 1 = (st.length : Int) by omega] at this
        rw [B58_3, pstL (tx_a2 hc) (by omega) (by omega), Int.toNat_natCast]
        exact this
      rw [if_pos q, tx_1 hc, w32_i (by omega) (by omega), show (st.length : Int) - 1 + 1 = (st.length : Int) by omega, if_pos q]
      by_cases q2 : p < 10000
      · rw [if_pos q2, if_pos q2]
        exact pushed p
      · rw [if_neg q2, if_neg q2, B58_2, w32_i (by omega) (by omega), named_e d _ _ _ _ _ _ (by omega), bnd_s]
        exact pushed _
    · rw [if_neg q, if_neg q, B58_4]
      by_cases q3 : p = 20033
      · rw [if_pos q3, if_pos q3]
        cases st with
        | nil =>
          rw [if_pos (by decide), B58_7, if_neg (by decide)]
          exact go [] μ same.rf hs (Nat.zero_le _)
        | cons x st =>
          have ht0 := hs.top
          rw [List.length_cons] at hsl ⊢
          have put : ∀ v, ∃ μ2, At cr2 (d + 1) 58 6 [v, ((st.length + 1 : Nat) : Int) - 1, ((c + 2 : Nat) : Int)] [(c : Int), a, b, e, g, ((st.length + 1 : Nat) : Int) - 1, (i : Int), 0] μ = At cr2 (d + 1) 58 9 [] [(c : Int), 0, 0, 0, 0, 0, 0, 0] μ2 ∧ SK c (evl (nv4 a b e g) l (v :: st)) μ2 ∧ same (STv c) μ μ2 := fun v => by
            have := go (v :: st) _ (tS μ st.length v) (hs.tail.push v) (by rw [List.length_cons]; omega)
            rw [List.length_cons] at this
            rw [B58_6, pstL (tx_a2 hc) (by omega) (by omega), show (((st.length + 1 : Nat) : Int) - 1).toNat = st.length by omega]
            exact this
          rw [if_neg (by omega), tx_1 hc, tx_1 hc, aldL (tx_a2 hc) (by omega) (by omega), show (((st.length + 1 : Nat) : Int) - 1).toNat = st.length by omega, ht0]
          by_cases qx : x = 0
          · rw [if_pos qx]
            show ∃ μ', _ ∧ SK c (evl _ l ((if x = 0 then 1 else 0) :: st)) μ' ∧ _
            rw [if_pos qx]
            exact put 1
          · rw [if_neg qx, B58_5]
            show ∃ μ', _ ∧ SK c (evl _ l ((if x = 0 then 1 else 0) :: st)) μ' ∧ _
            rw [if_neg qx]
            exact put 0
      · rw [if_neg q3, if_neg q3, B58_7]
        match st, hs, hsl with
        | [], hs, hsl =>
          rw [if_neg (by decide)]
          exact go [] μ same.rf hs (Nat.zero_le _)
        | [x], hs, hsl =>
          rw [if_neg (show ¬ (0 : Int) < (([x].length : Nat) : Int) - 1 by show ¬ (0 : Int) < ((1 : Nat) : Int) - 1; decide)]
          exact go [x] μ same.rf hs (by exact Nat.le_succ_of_le hsl)
        | y :: x :: st, hs, hsl =>
          have ht0 := hs.top
          have ht1 := hs.tail.top
          rw [List.length_cons] at ht0
          rw [List.length_cons, List.length_cons] at hsl ⊢
          rw [if_pos (by omega), tx_1 hc, tx_1 hc, w32_i (x := ((st.length + 1 + 1 : Nat) : Int) - 1 + -1) (by omega) (by omega), aldL (tx_a2 hc) (by omega) (by omega), tx_1 hc, w32_i (x := ((st.length + 1 + 1 : Nat) : Int) - 1 + -1 + 1) (by omega) (by omega), aldL (tx_a2 hc) (by omega) (by omega), show (((st.length + 1 + 1 : Nat) : Int) - 1 + -1).toNat = st.length by omega, show (((st.length + 1 + 1 : Nat) : Int) - 1 + -1 + 1).toNat = st.length + 1 by omega, ht0, ht1, w32_i (x := p - 20000) (by omega) (by omega), worked_e, bnd_s, pstL (tx_a2 hc) (by omega) (by omega), show (((st.length + 1 + 1 : Nat) : Int) - 1 + -1).toNat = st.length by omega]
          have := go (wrk (p - 20000) x y :: st) _ (tS μ st.length (wrk (p - 20000) x y)) (hs.tail.tail.push _) (by rw [List.length_cons]; omega)
          rw [List.length_cons] at this
          rw [show ((st.length + 1 + 1 : Nat) : Int) - 1 + -1 = ((st.length + 1 : Nat) : Int) - 1 by omega]
          exact this
theorem cmp_R {u : Nat} {l : List Int} : ∀ p ∈ cmp u l, -1000000 ≤ p ∧ p < 1000000 := fun p hp => by
  rcases pl_pt u 60 0 0 l p hp with h | ⟨x, hx, e⟩ | h
  · omega
  · have := nmo_R u x
    omega
  · omega
theorem value_e (d : Nat) {c u : Nat} (hc : isTx c) {l : List Int} {μ : amM} (ok : TOk u l) (hn : l ≠ []) (h : TX c u l μ) (a b e g : Int) : ∃ μ', RD cr2 (d + 2) 58 [(c : Int), a, b, e, g] μ = some (txv u l a b e g, μ') ∧ same (STv c) μ μ' := by
  have h50 := cmp_len (u := u) ok.1
  obtain ⟨v, hv⟩ := ok.val hn (nv4 a b e g)
  obtain ⟨μ', g1, g2, g3⟩ := val_loop d hc h50 (cmp u l) 0 [] μ (List.drop_zero) (Nat.zero_le _) h (fun j hj => absurd hj (Nat.not_lt_zero j)) (Nat.zero_le _) cmp_R
  refine ⟨μ', ?_, g3⟩
  have e0 : μ' (c + 2) 0 = v := by
    have := g2
    rw [hv []] at this
    exact this.top
  have e1 : txv u l a b e g = v := by
    unfold txv
    rw [hv []]; rfl
  rw [M58]
  refine g1.trans ?_
  rw [B58_9, tx_1 hc, aldL (tx_a2 hc) (by decide) (by decide), show (0 : Int).toNat = 0 from rfl, e0, e1]
theorem TOk.parts {u : Nat} {l : List Int} (ok : TOk u l) : (cmp u l).length = 0 ↔ l = [] := by
  constructor
  · intro h
    by_cases q : l = []
    · exact q
    · obtain ⟨v, hv⟩ := ok.val q (fun _ => 0)
      have e := List.length_eq_zero_iff.mp h
      have := hv []
      rw [e] at this
      cases this
  · intro h
    subst h
    cases u with
    | zero => decide
    | succ u =>
      unfold cmp
      have := pl_len (u + 1) 60 0 0 []
      rw [List.length_nil] at this
      omega
/-! what changes and houses cost, what they are worth -/
def cst (k : K) (a b : Int) : Int := max 0 (min 99 (if k.x0 = [] then w32 (10 + b) else txv 0 k.x0 a b 0 0))
def wth (k : K) (a b c e : Int) : Int := if k.x1 = [] then 0 else max (-99) (min 99 (txv 1 k.x1 a b c e))
def SStk (c _ : Nat) : Bool := Nat.beq c 15 || Nat.beq c 18
theorem jmax_e (a b : Int) : jmax a b = max a b := by
  unfold jmax
  split <;> omega
theorem jmin_e (a b : Int) : jmin a b = min a b := by
  unfold jmin
  split <;> omega
theorem costText_e (d : Nat) {k : K} {μ : amM} (ok : k.Ok) (h : TX 13 0 k.x0 μ) (a b : Int) : ∃ μ', RD cr2 (d + 3) 42 [1, a, b] μ = some (cst k a b, μ') ∧ same SStk μ μ' := by
  have okt := ok.2.2.2.1.1
  unfold cst
  have ms : RD cr2 (d + 2) 54 [13] μ = some (bi ((cmp 0 k.x0).length == 0), μ) := miss_e (d + 1) (Or.inl rfl) h
  rw [M42, ms, bnd_s]
  by_cases q : k.x0 = []
  · rw [okt.parts.mpr q, if_neg (by decide), B42_2, if_pos q, jmax_e, jmin_e]
    exact ⟨μ, rfl, same.rf⟩
  · have hne : (cmp 0 k.x0).length ≠ 0 := fun w => q (okt.parts.mp w)
    obtain ⟨μ', g1, g2⟩ := value_e d (Or.inl rfl) okt q h a b 0 0
    have g1 : RD cr2 (d + 2) 58 [13, a, b, 0, 0] μ = some (txv 0 k.x0 a b 0 0, μ') := g1
    rw [beq_false_of_ne hne, if_pos (show bi false = 0 from rfl), B42_1, g1, bnd_s, B42_2, if_neg q, jmax_e, jmin_e]
    exact ⟨μ', rfl, g2.wide (fun c i w => by unfold STv; exact beq_f (fun e => by rw [e] at w; cases w))⟩
theorem worthText_e (d : Nat) {k : K} {μ : amM} (ok : k.Ok) (h : TX 16 1 k.x1 μ) (a b c e : Int) : ∃ μ', RD cr2 (d + 3) 43 [1, a, b, c, e] μ = some (wth k a b c e, μ') ∧ same SStk μ μ' := by
  have okt := ok.2.2.2.1.2
  unfold wth
  have ms : RD cr2 (d + 2) 54 [16] μ = some (bi ((cmp 1 k.x1).length == 0), μ) := miss_e (d + 1) (Or.inr rfl) h
  rw [M43, ms, bnd_s]
  by_cases q : k.x1 = []
  · rw [okt.parts.mpr q, if_neg (by decide), if_pos q]
    exact ⟨μ, rfl, same.rf⟩
  · have hne : (cmp 1 k.x1).length ≠ 0 := fun w => q (okt.parts.mp w)
    obtain ⟨μ', g1, g2⟩ := value_e d (Or.inr rfl) okt q h a b c e
    have g1 : RD cr2 (d + 2) 58 [16, a, b, c, e] μ = some (txv 1 k.x1 a b c e, μ') := g1
    rw [beq_false_of_ne hne, if_pos (show bi false = 0 from rfl), B43_1, g1, bnd_s, if_neg q, jmax_e, jmin_e]
    exact ⟨μ', rfl, g2.wide (fun c i w => by unfold STv; exact beq_f (fun e => by rw [e] at w; cases w))⟩
theorem SStk_Sc {μ μ' : amM} (h : same SStk μ μ') : same (or2 g0 ScC) μ μ' := by
  refine h.wide (fun c i q => ?_)
  have q := or2_r q
  unfold SStk
  by_cases e : c = 15
  · rw [e] at q; cases q
  · by_cases e2 : c = 18
    · rw [e2] at q; cases q
    · rw [beq_f e, beq_f e2]; rfl
theorem SStk_F {μ μ' : amM} (h : same SStk μ μ') : same FC μ μ' := by
  refine h.wide (fun c i q => ?_)
  unfold SStk
  by_cases e : c = 15
  · rw [e] at q; cases q
  · by_cases e2 : c = 18
    · rw [e2] at q; cases q
    · rw [beq_f e, beq_f e2]; rfl
/-! law -/
def lawS (σ : St) (u a b c e : Int) : Int × St := bif (decide (0 ≤ u) && decide (u ≤ 1)) then (if u = 0 then (cst σ.k a b, σ) else (wth σ.k a b c e, σ)) else σ.no 1
theorem law_ok {σ : St} (ok : σ.Ok) (u a b c e : Int) : (lawS σ u a b c e).2.Ok := cd_ok (fun _ => if_ok (fun _ => ok) (fun _ => ok)) (fun _ => ok)
theorem law_c (d : Nat) {σ : St} {μ : amM} (ok : σ.Ok) (h : CI σ μ) (u a b c e : Int) : OC μ (RD cr2 (d + 20) 112 [0, u, a, b, c, e] μ) (lawS σ u a b c e) := by
  unfold lawS
  rw [M112, isWithin_e, bnd_s, ifb]
  refine OC.cd (fun hu => ?_) (fun _ => (OC.no _ h (by decide) (by decide)).bi (fun _ _ => rfl))
  rw [B112_1]
  by_cases q : u = 0
  · obtain ⟨μ', g1, g2⟩ := costText_e (d + 16) ok.1 h.1.2.2.2.1.1 a b
    rw [if_pos q, if_pos q, g1, bnd_s, B112_3]
    exact ⟨μ', rfl, h.set0 (SStk_Sc g2), SStk_F g2⟩
  · obtain ⟨μ', g1, g2⟩ := worthText_e (d + 16) ok.1 h.1.2.2.2.1.2 a b c e
    rw [if_neg q, if_neg q, B112_2, g1, bnd_s, B112_3]
    exact ⟨μ', rfl, h.set0 (SStk_Sc g2), SStk_F g2⟩
