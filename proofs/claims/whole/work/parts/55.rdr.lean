/-! ===== the class reads a text ===== -/
def SRd (c i : Nat) : Bool := (Nat.beq c 37 && Nat.beq i 3) || (Nat.beq c 38 && Nat.beq i 2) || Nat.beq c 39
def RS (u : Nat) (T rest p : List Int) (μ : amM) : Prop := (∃ pre, T = pre ++ rest ∧ μ 37 3 = (pre.length : Int)) ∧ (μ 37 1 = 11 ∧ μ 37 2 = (T.length : Int) ∧ μ 37 4 = (u : Int)) ∧ (μ 38 2 = (p.length : Int) ∧ ∀ i, i < p.length → μ 39 i = p.getD i 0) ∧ ∀ i, i < T.length → μ 11 i = T.getD i 0
def TB (T : List Int) : Prop := T.length ≤ 50 ∧ ∀ c ∈ T, 0 ≤ c ∧ c < 256
theorem hd_R {u : Nat} {T rest p : List Int} {μ : amM} (hT : TB T) (h : RS u T rest p μ) : -1 ≤ hd rest ∧ hd rest < 256 := by
  obtain ⟨⟨pre, e, -⟩, -⟩ := h
  cases rest with
  | nil => exact ⟨by decide, by decide⟩
  | cons c r =>
    have := hT.2 c (by rw [e]; exact List.mem_append_right _ (List.mem_cons_self ..))
    exact ⟨by show -1 ≤ c; omega, this.2⟩
theorem here_e (d : Nat) {u : Nat} {T rest p : List Int} {μ : amM} (hT : TB T) (h : RS u T rest p μ) : RD cr2 (d + 1) 25 [37] μ = some (hd rest, μ) := by
  obtain ⟨⟨pre, e, e3⟩, ⟨e1, e2, -⟩, -, h11⟩ := h
  have hl := hT.1
  rw [M25, e3, e2, e1]
  cases rest with
  | nil =>
    rw [List.append_nil] at e
    rw [if_neg (by rw [e]; omega), B25_1, B25_2]
    rfl
  | cons c r =>
    have el : T.length = pre.length + (r.length + 1) := by rw [e, List.length_append, List.length_cons]
    rw [if_pos (by omega), if_pos rfl, rd_p (by omega) (by omega), Int.toNat_natCast, h11 _ (by omega), B25_2]
    rw [e, List.getD_eq_getElem?_getD, List.getElem?_append_right (Nat.le_refl _), Nat.sub_self]
    rfl
theorem RS.next {u : Nat} {T rest p : List Int} {μ : amM} (h : RS u T rest p μ) (hr : hd rest ≠ -1) : RS u T rest.tail p (up μ 37 3 (μ 37 3 + 1)) ∧ μ 37 3 < (T.length : Int) ∧ 0 ≤ μ 37 3 := by
  obtain ⟨⟨pre, e, e3⟩, ⟨e1, e2, e4⟩, ⟨p1, p2⟩, h11⟩ := h
  cases rest with
  | nil => exact absurd rfl hr
  | cons c r =>
    have el : T.length = pre.length + (r.length + 1) := by rw [e, List.length_append, List.length_cons]
    refine ⟨⟨⟨pre ++ [c], by rw [e, List.append_assoc]; rfl, by rw [up_eq, e3, List.length_append]; rfl⟩, ⟨e1, e2, e4⟩, ⟨p1, p2⟩, h11⟩, by omega, by omega⟩
theorem SRd_3 {μ : amM} {v : Int} : same SRd μ (up μ 37 3 v) := same.rf.up rfl
theorem add_e (d : Nat) {u : Nat} {T rest p : List Int} {μ : amM} (h : RS u T rest p μ) (hp : p.length < 50) (v : Int) : ∃ μ', RD cr2 (d + 1) 56 [38, v] μ = some (0, μ') ∧ RS u T rest (p ++ [v]) μ' ∧ same SRd μ μ' := by
  obtain ⟨⟨pre, e, e3⟩, ⟨e1, e2, e4⟩, ⟨p1, p2⟩, h11⟩ := h
  have ep : up μ 39 p.length v 38 2 = (p.length : Int) := p1
  refine ⟨up (up μ 39 p.length v) 38 2 ((p.length : Int) + 1), ?_, ⟨⟨pre, e, e3⟩, ⟨e1, e2, e4⟩, ⟨by rw [up_eq, List.length_append]; rfl, fun i hi => ?_⟩, h11⟩, (same.rf.up rfl).up rfl⟩
  · rw [M56, p1, if_pos (by omega), wr_p (by omega) (by omega), Int.toNat_natCast, wf_e, ep, w32_i (by omega) (by omega), B56_1]
  · rw [List.length_append] at hi
    have hi : i < p.length + 1 := hi
    rw [up_ne _ _ _ _ (Or.inl (by decide)), up_if]
    by_cases q : i = p.length
    · rw [if_pos q, q, getD_app_r]
    · rw [if_neg q, getD_app_l (by omega)]
      exact p2 i (by omega)
def dig (c : Int) : Bool := decide (48 ≤ c ∧ c ≤ 57)
theorem digit_e (d : Nat) (c : Int) (μ : amM) : RD cr2 (d + 1) 32 [c] μ = some (bi (dig c), μ) := by
  unfold dig
  rw [M32]
  by_cases q : c < 48
  · rw [if_pos q, B32_1, B32_2, decide_eq_false (by omega)]; rfl
  · by_cases q2 : 57 < c
    · rw [if_neg q, if_pos q2, B32_1, B32_2, decide_eq_false (by omega)]; rfl
    · rw [if_neg q, if_neg q2, B32_2, decide_eq_true (by omega)]; rfl

theorem name_e (d : Nat) {u : Nat} (hu : u < 2) {μ : amM} (h4 : μ 37 4 = (u : Int)) (c : Int) : RD cr2 (d + 1) 33 [37, c] μ = some (nmo u c, μ) := by
  rw [M33]
  by_cases q99 : c = 99
  · rw [if_pos q99, B33_7, h4, q99]
    match u, hu with
    | 0, _ => rw [if_neg (by decide), B33_8, B33_9]; rfl
    | 1, _ => rw [if_pos (by decide), B33_9]; rfl
  rw [if_neg q99]
  by_cases q100 : c = 100
  · rw [if_pos q100, B33_13, h4, q100]
    match u, hu with
    | 0, _ => rw [if_neg (by decide), B33_14, B33_15]; rfl
    | 1, _ => rw [if_pos (by decide), B33_15]; rfl
  rw [if_neg q100]
  by_cases q101 : c = 101
  · rw [if_pos q101, B33_19, q101]
    match u, hu with
    | 0, _ => rfl
    | 1, _ => rfl
  rw [if_neg q101]
  by_cases q102 : c = 102
  · rw [if_pos q102, B33_19, q102]
    match u, hu with
    | 0, _ => rfl
    | 1, _ => rfl
  rw [if_neg q102]
  by_cases q103 : c = 103
  · rw [if_pos q103, B33_19, q103]
    match u, hu with
    | 0, _ => rfl
    | 1, _ => rfl
  rw [if_neg q103]
  by_cases q104 : c = 104
  · rw [if_pos q104, B33_19, q104]
    match u, hu with
    | 0, _ => rfl
    | 1, _ => rfl
  rw [if_neg q104]
  by_cases q105 : c = 105
  · rw [if_pos q105, B33_19, q105]
    match u, hu with
    | 0, _ => rfl
    | 1, _ => rfl
  rw [if_neg q105]
  by_cases q106 : c = 106
  · rw [if_pos q106, B33_19, q106]
    match u, hu with
    | 0, _ => rfl
    | 1, _ => rfl
  rw [if_neg q106]
  by_cases q107 : c = 107
  · rw [if_pos q107, B33_1, h4, q107]
    match u, hu with
    | 0, _ => rw [if_pos (by decide), B33_3]; rfl
    | 1, _ => rw [if_neg (by decide), B33_2, B33_3]; rfl
  rw [if_neg q107]
  by_cases q108 : c = 108
  · rw [if_pos q108, B33_19, q108]
    match u, hu with
    | 0, _ => rfl
    | 1, _ => rfl
  rw [if_neg q108]
  by_cases q109 : c = 109
  · rw [if_pos q109, B33_4, h4, q109]
    match u, hu with
    | 0, _ => rw [if_pos (by decide), B33_6]; rfl
    | 1, _ => rw [if_neg (by decide), B33_5, B33_6]; rfl
  rw [if_neg q109]
  by_cases q110 : c = 110
  · rw [if_pos q110, B33_19, q110]
    match u, hu with
    | 0, _ => rfl
    | 1, _ => rfl
  rw [if_neg q110]
  by_cases q111 : c = 111
  · rw [if_pos q111, B33_19, q111]
    match u, hu with
    | 0, _ => rfl
    | 1, _ => rfl
  rw [if_neg q111]
  by_cases q112 : c = 112
  · rw [if_pos q112, B33_19, q112]
    match u, hu with
    | 0, _ => rfl
    | 1, _ => rfl
  rw [if_neg q112]
  by_cases q113 : c = 113
  · rw [if_pos q113, B33_19, q113]
    match u, hu with
    | 0, _ => rfl
    | 1, _ => rfl
  rw [if_neg q113]
  by_cases q114 : c = 114
  · rw [if_pos q114, B33_10, h4, q114]
    match u, hu with
    | 0, _ => rw [if_neg (by decide), B33_11, B33_12]; rfl
    | 1, _ => rw [if_pos (by decide), B33_12]; rfl
  rw [if_neg q114]
  by_cases q115 : c = 115
  · rw [if_pos q115, B33_19, q115]
    match u, hu with
    | 0, _ => rfl
    | 1, _ => rfl
  rw [if_neg q115]
  by_cases q116 : c = 116
  · rw [if_pos q116, B33_19, q116]
    match u, hu with
    | 0, _ => rfl
    | 1, _ => rfl
  rw [if_neg q116]
  by_cases q117 : c = 117
  · rw [if_pos q117, B33_19, q117]
    match u, hu with
    | 0, _ => rfl
    | 1, _ => rfl
  rw [if_neg q117]
  by_cases q118 : c = 118
  · rw [if_pos q118, B33_16, h4, q118]
    match u, hu with
    | 0, _ => rw [if_neg (by decide), B33_17, B33_18]; rfl
    | 1, _ => rw [if_pos (by decide), B33_18]; rfl
  rw [if_neg q118]
  rw [B33_19]
  unfold nmo
  rw [if_neg q107, if_neg q109, if_neg q99, if_neg q114, if_neg q100, if_neg q118]
  by_cases q : u = 0
  · rw [if_pos q]
  · rw [if_neg q]
theorem sign_e (d : Nat) {lv : Nat} (hl : lv < 5) (c : Int) (μ : amM) : RD cr2 (d + 1) 27 [(lv : Int), c] μ = some (bi (sg lv c), μ) := by
  rw [M27]
  match lv, hl with
  | 0, _ =>
    rw [if_pos (by decide), B27_1]
    unfold sg
    by_cases q : c = 124
    · rw [if_pos q, B27_3, q]; rfl
    · rw [if_neg q, B27_2, B27_3]; simp only [beq_false_of_ne q]; rfl
  | 1, _ =>
    rw [if_neg (by decide), if_pos (by decide), B27_4]
    unfold sg
    by_cases q : c = 38
    · rw [if_pos q, B27_6, q]; rfl
    · rw [if_neg q, B27_5, B27_6]; simp only [beq_false_of_ne q]; rfl
  | 2, _ =>
    rw [if_neg (by decide), if_neg (by decide), if_pos (by decide), B27_7]
    unfold sg
    by_cases q : c = 60
    · rw [if_pos q, B27_8, B27_10, q]; rfl
    · by_cases q2 : c = 61
      · rw [if_neg q, if_pos q2, B27_8, B27_10, q2]; rfl
      · by_cases q3 : c = 62
        · rw [if_neg q, if_neg q2, if_pos q3, B27_8, B27_10, q3]; rfl
        · rw [if_neg q, if_neg q2, if_neg q3, B27_9, B27_10]; simp only [beq_false_of_ne q, beq_false_of_ne q2, beq_false_of_ne q3]; rfl
  | 3, _ =>
    rw [if_neg (by decide), if_neg (by decide), if_neg (by decide), if_pos (by decide), B27_11]
    unfold sg
    by_cases q : c = 43
    · rw [if_pos q, B27_12, B27_14, q]; rfl
    · by_cases q2 : c = 45
      · rw [if_neg q, if_pos q2, B27_12, B27_14, q2]; rfl
      · rw [if_neg q, if_neg q2, B27_13, B27_14]; simp only [beq_false_of_ne q, beq_false_of_ne q2]; rfl
  | 4, _ =>
    rw [if_neg (by decide), if_neg (by decide), if_neg (by decide), if_neg (by decide), B27_15]
    unfold sg
    by_cases q : c = 42
    · rw [if_pos q, B27_16, B27_18, q]; rfl
    · by_cases q2 : c = 47
      · rw [if_neg q, if_pos q2, B27_16, B27_18, q2]; rfl
      · by_cases q3 : c = 37
        · rw [if_neg q, if_neg q2, if_pos q3, B27_16, B27_18, q3]; rfl
        · rw [if_neg q, if_neg q2, if_neg q3, B27_17, B27_18]; simp only [beq_false_of_ne q, beq_false_of_ne q2, beq_false_of_ne q3]; rfl
theorem num_loop (d : Nat) {u : Nat} {T p : List Int} (hT : TB T) (hp : p.length < 50) : ∀ (k i : Nat) (v B : Int) (rest : List Int) (μ : amM), i + k = 4 → RS u T rest p μ → 0 ≤ v → v < B → 10 * B ≤ 100000 ∧ (k = 4 → B ≤ 1) ∧ (k = 3 → B ≤ 10) ∧ (k = 2 → B ≤ 100) ∧ (k = 1 → B ≤ 1000) → ∃ μ', At cr2 (d + 1) 31 1 [] [37, v, (i : Int)] μ = some (0, μ') ∧ RS u T (rdn k v rest).2 (p ++ [(rdn k v rest).1]) μ' ∧ same SRd μ μ'
  | 0, i, v, B, rest, μ, hi, h, h0, h1, hB => by
    obtain ⟨μ', g1, g2, g3⟩ := add_e d h hp v
    rw [B31_1, if_neg (by omega), B31_2, g1, bnd_s]
    exact ⟨μ', rfl, g2, g3⟩
  | k + 1, i, v, B, rest, μ, hi, h, h0, h1, hB => by
    obtain ⟨μ', g1, g2, g3⟩ := add_e d h hp v
    have hR := hd_R hT h
    rw [B31_1, if_pos (by omega), here_e d hT h, bnd_s, digit_e, bnd_s]
    cases rest with
    | nil =>
      rw [show dig (hd []) = false from rfl, if_pos (show bi false = 0 from rfl), B31_2, g1, bnd_s]
      exact ⟨μ', rfl, g2, g3⟩
    | cons c r =>
      show ∃ μ', (if bi (dig c) = 0 then _ else _) = _ ∧ _
      have hR : -1 ≤ c ∧ c < 256 := hR
      unfold rdn
      by_cases q : 48 ≤ c ∧ c ≤ 57
      · have hdg : dig c = true := decide_eq_true q
        obtain ⟨n1, n2, n3⟩ := h.next (rest := c :: r) (show c ≠ -1 by omega)
        have hl := hT.1
        have hB2 : B ≤ 1000 := by
          rcases (show k = 0 ∨ k = 1 ∨ k = 2 ∨ k = 3 by omega) with e | e | e | e
          · exact hB.2.2.2.2 (by omega)
          · have := hB.2.2.2.1 (by omega); omega
          · have := hB.2.2.1 (by omega); omega
          · have := hB.2.1 (by omega); omega
        rw [hdg, if_neg (show ¬ bi true = 0 from by decide), if_pos q, here_e d hT h, bnd_s, wf_e, w32_i (x := μ 37 3 + 1) (by omega) (by omega)]
        show ∃ μ', At cr2 (d + 1) 31 1 [] [37, w32 (w32 (w32 (10 * v) + c) - 48), w32 ((i : Int) + 1)] (up μ 37 3 (μ 37 3 + 1)) = some (0, μ') ∧ _
        rw [w32_i (x := 10 * v) (by omega) (by omega), w32_i (x := 10 * v + c) (by omega) (by omega), w32_i (x := 10 * v + c - 48) (by omega) (by omega), w32_i (x := (i : Int) + 1) (by omega) (by omega)]
        obtain ⟨μ2, f1, f2, f3⟩ := num_loop d hT hp k (i + 1) (10 * v + c - 48) (10 * B) r _ (by omega) n1 (by omega) (by omega) (by
          refine ⟨by omega, fun e => by omega, fun e => ?_, fun e => ?_, fun e => ?_⟩
          · have := hB.2.1 (by omega); omega
          · have := hB.2.2.1 (by omega); omega
          · have := hB.2.2.2.1 (by omega); omega)
        exact ⟨μ2, f1, f2, SRd_3.tr f3⟩
      · have hdg : dig c = false := decide_eq_false q
        rw [hdg, if_pos (show bi false = 0 from rfl), if_neg q, B31_2, g1, bnd_s]
        exact ⟨μ', rfl, g2, g3⟩
/-- a reading is what it must be -/
def RdOk (u : Nat) (T p : List Int) (μ : amM) (r : amR) (q : Bool × List Int × List Int) : Prop := ∃ μ', r = some (bi q.1, μ') ∧ RS u T q.2.1 (p ++ q.2.2) μ' ∧ same SRd μ μ'
theorem lv_loop (d : Nat) {u : Nat} {T : List Int} (hT : TB T) {lv : Nat} (hl : lv < 5) (op : Int) {g : List Int → Bool × List Int × List Int} (hgl : ∀ l, (g l).2.2.length + (g l).2.1.length ≤ l.length) (hg : ∀ (rest p : List Int) (μ : amM), RS u T rest p μ → p.length + rest.length ≤ 50 → RdOk u T p μ (RD cr2 (d + 1) 26 [37, ((lv + 1 : Nat) : Int), op] μ) (g rest)) (P : List Int) (most : Int) : ∀ (n i : Nat) (rest p : List Int) (μ : amM), (i : Int) + n = most → i < 1000 → most ≤ 50 → RS u T rest (P ++ p) μ → (P ++ p).length + rest.length ≤ 50 → RdOk u T P μ (At cr2 (d + 1) 26 5 [] [37, (lv : Int), op, most, (i : Int), 0] μ) (lp g lv n rest p)
  | 0, i, rest, p, μ, hi, h1000, hm, h, hp => by
    unfold RdOk lp
    rw [B26_5, if_neg (by omega), B26_7]
    exact ⟨μ, rfl, h, same.rf⟩
  | n + 1, i, rest, p, μ, hi, h1000, hm, h, hp => by
    have hR := hd_R hT h
    have hl50 := hT.1
    unfold RdOk lp
    rw [B26_5, if_pos (by omega), here_e d hT h, bnd_s, sign_e d hl, bnd_s]
    cases hs : sg lv (hd rest) with
    | false =>
      rw [if_pos (show bi false = 0 from rfl), if_neg (show ¬ false = true by decide), B26_7]
      exact ⟨μ, rfl, h, same.rf⟩
    | true =>
      have hne := sg_hd hs
      have etl := tail_len hne
      obtain ⟨n1, n2, n3⟩ := h.next hne
      rw [if_neg (show ¬ bi true = 0 from by decide), if_pos rfl, here_e d hT h, bnd_s, wf_e, w32_i (x := μ 37 3 + 1) (by omega) (by omega), w32_i (x := (lv : Int) + 1) (by omega) (by omega)]
      obtain ⟨μ1, a1, a2, a3⟩ := hg rest.tail (P ++ p) _ n1 (by omega)
      have a1' : RD cr2 (d + 1) 26 [37, (lv : Int) + 1, op] (up μ 37 3 (μ 37 3 + 1)) = some (bi (g rest.tail).1, μ1) := a1
      rw [a1', bnd_s]
      cases hb : (g rest.tail).1 with
      | false =>
        rw [if_pos (show bi false = 0 from rfl), if_neg (show ¬ false = true by decide)]
        exact ⟨μ1, rfl, by rw [← List.append_assoc]; exact a2, SRd_3.tr a3⟩
      | true =>
        have hgt := hgl rest.tail
        have hlen : ((P ++ p) ++ (g rest.tail).2.2).length < 50 := by
          rw [List.length_append]
          omega
        obtain ⟨μ2, b1, b2, b3⟩ := add_e d a2 hlen (20000 + hd rest)
        rw [if_neg (show ¬ bi true = 0 from by decide), if_pos rfl, B26_6, w32_i (x := 20000 + hd rest) (by omega) (by omega), b1, bnd_s, w32_i (by omega) (by omega)]
        have e2 : (P ++ p) ++ (g rest.tail).2.2 ++ [20000 + hd rest] = P ++ (p ++ (g rest.tail).2.2 ++ [20000 + hd rest]) := by
          simp only [List.append_assoc]
        rw [e2] at b2
        obtain ⟨μ3, c1, c2, c3⟩ := lv_loop d hT hl op hgl hg P most n (i + 1) (g rest.tail).2.1 (p ++ (g rest.tail).2.2 ++ [20000 + hd rest]) μ2 (by omega) (by omega) hm b2 (by
          rw [← e2, List.length_append, List.length_append, List.length_singleton]
          omega)
        exact ⟨μ3, c1, c2, ((SRd_3.tr a3).tr b3).tr c3⟩
theorem need_a {f op : Nat} (h : (5 - op) * 7 + 1 ≤ f + 1) (ho : op < 5) : (5 - (op + 1)) * 7 + 1 ≤ f ∧ (5 - (op + 1)) * 7 + 1 + 5 ≤ f := by omega
theorem read_e {u : Nat} (hu : u < 2) {T : List Int} (hT : TB T) : ∀ f : Nat, (∀ (d op : Nat) (rest p : List Int) (μ : amM), (5 - op) * 7 + 1 ≤ f → op ≤ 5 → RS u T rest p μ → p.length + rest.length ≤ 50 → RdOk u T p μ (RD cr2 (d + 3 * f + 5) 28 [37, (op : Int)] μ) (pl u f 5 op rest)) ∧ (∀ (d lv op : Nat) (rest p : List Int) (μ : amM), (5 - op) * 7 + 1 + (5 - lv) ≤ f → op ≤ 5 → lv ≤ 5 → RS u T rest p μ → p.length + rest.length ≤ 50 → RdOk u T p μ (RD cr2 (d + 3 * f + 6) 26 [37, (lv : Int), (op : Int)] μ) (pl u f lv op rest))
  | 0 => ⟨fun d op rest p μ h => absurd h (by omega), fun d lv op rest p μ h => absurd h (by omega)⟩
  | f + 1 => by
    obtain ⟨ihA, ihB⟩ := read_e hu hT f
    have hl50 := hT.1
    have A : ∀ (d op : Nat) (rest p : List Int) (μ : amM), (5 - op) * 7 + 1 ≤ f + 1 → op ≤ 5 → RS u T rest p μ → p.length + rest.length ≤ 50 → RdOk u T p μ (RD cr2 (d + 3 * (f + 1) + 5) 28 [37, (op : Int)] μ) (pl u (f + 1) 5 op rest) := by
      intro d op rest p μ hf ho h hp
      have hR := hd_R hT h
      unfold RdOk pl
      rw [if_pos (show 5 ≤ 5 from Nat.le_refl _), show d + 3 * (f + 1) + 5 = (d + 3 * f + 7) + 1 by omega, M28, here_e (d + 3 * f + 6) hT h, bnd_s, digit_e (d + 3 * f + 6), bnd_s]
      by_cases q1 : 48 ≤ hd rest ∧ hd rest ≤ 57
      · have hdg : dig (hd rest) = true := decide_eq_true q1
        have hne : hd rest ≠ -1 := by omega
        have etl := tail_len hne
        obtain ⟨μ1, g1, g2, g3⟩ := num_loop (d + 3 * f + 5) hT (p := p) (by omega) 4 0 0 1 rest μ rfl h (by decide) (by decide) (by decide)
        have e31 : RD cr2 (d + 3 * f + 7) 31 [37] μ = some (0, μ1) := (M31 (d + 3 * f + 6) μ).trans g1
        rw [hdg, if_neg (show ¬ bi true = 0 from by decide), if_pos q1, e31, bnd_s]
        exact ⟨μ1, rfl, g2, g3⟩
      · have hdg : dig (hd rest) = false := decide_eq_false q1
        rw [hdg, if_pos (show bi false = 0 from rfl), if_neg q1, B28_1, name_e (d + 3 * f + 6) hu h.2.1.2.2, bnd_s]
        by_cases q2 : nmo u (hd rest) = -1
        · rw [if_pos q2, if_neg (fun w => w q2), B28_2]
          have four : At cr2 (d + 3 * f + 7) 28 4 [] [0, 0, 0, 0] μ = some (0, μ) := B28_4 _ _
          by_cases q3 : hd rest ≠ 33 ∧ hd rest ≠ 40
          · rw [if_neg q3.1, if_neg q3.2, four, if_pos (Or.inl q3)]
            exact ⟨μ, rfl, by rw [List.append_nil]; exact h, same.rf⟩
          · have three : At cr2 (d + 3 * f + 7) 28 3 [] [37, (op : Int), hd rest, 0] μ = (if hd rest = 33 then At cr2 (d + 3 * f + 7) 28 3 [] [37, (op : Int), hd rest, 0] μ else (if hd rest = 40 then At cr2 (d + 3 * f + 7) 28 3 [] [37, (op : Int), hd rest, 0] μ else At cr2 (d + 3 * f + 7) 28 4 [] [0, 0, 0, 0] μ)) := by
              by_cases q33 : hd rest = 33
              · rw [if_pos q33]
              · rw [if_neg q33, if_pos (show hd rest = 40 from by
                  by_cases q40 : hd rest = 40
                  · exact q40
                  · exact absurd ⟨q33, q40⟩ q3)]
            rw [← three, B28_3]
            by_cases q4 : 5 ≤ op
            · rw [if_neg (by omega), four, if_pos (Or.inr q4)]
              exact ⟨μ, rfl, by rw [List.append_nil]; exact h, same.rf⟩
            · have hne : hd rest ≠ -1 := fun e => q3 (by rw [e]; exact ⟨by decide, by decide⟩)
              have etl := tail_len hne
              obtain ⟨n1, n2, n3⟩ := h.next hne
              have hq := need_a hf (by omega)
              rw [if_pos (by omega), if_neg (fun w => by rcases w with w | w; exact q3 w; exact q4 w), B28_5, wf_e, w32_i (x := μ 37 3 + 1) (by omega) (by omega)]
              by_cases q5 : hd rest = 33
              · rw [if_pos q5, if_pos q5, w32_i (by omega) (by omega)]
                obtain ⟨μ1, a1, a2, a3⟩ := ihA (d + 1) (op + 1) rest.tail p _ hq.1 (by omega) n1 (by omega)
                have hpl := pl_len u f 5 (op + 1) rest.tail
                have a1' : RD cr2 (d + 3 * f + 6) 28 [37, (op : Int) + 1] (up μ 37 3 (μ 37 3 + 1)) = some (bi (pl u f 5 (op + 1) rest.tail).1, μ1) := by
                  rw [show d + 3 * f + 6 = d + 1 + 3 * f + 5 by omega]
                  exact a1
                rw [M29 (d + 3 * f + 6), a1', bnd_s]
                cases hb : (pl u f 5 (op + 1) rest.tail).1 with
                | false =>
                  rw [if_pos (show bi false = 0 from rfl), if_neg (show ¬ false = true by decide), bnd_s, B28_7, hb]
                  exact ⟨μ1, rfl, a2, SRd_3.tr a3⟩
                | true =>
                  obtain ⟨μ2, b1, b2, b3⟩ := add_e (d + 3 * f + 5) a2 (by rw [List.length_append]; omega) 20033
                  rw [if_neg (show ¬ bi true = 0 from by decide), if_pos rfl, B29_1, b1, bnd_s, bnd_s, B28_7]
                  exact ⟨μ2, rfl, by rw [← List.append_assoc]; exact b2, (SRd_3.tr a3).tr b3⟩
              · rw [if_neg q5, if_neg q5, B28_6, w32_i (by omega) (by omega)]
                obtain ⟨μ1, a1, a2, a3⟩ := ihB d 0 (op + 1) rest.tail p _ hq.2 (by omega) (by omega) n1 (by omega)
                have a1' : RD cr2 (d + 3 * f + 6) 26 [37, 0, (op : Int) + 1] (up μ 37 3 (μ 37 3 + 1)) = some (bi (pl u f 0 (op + 1) rest.tail).1, μ1) := a1
                rw [M30 (d + 3 * f + 6), a1', bnd_s]
                cases hb : (pl u f 0 (op + 1) rest.tail).1 with
                | false =>
                  rw [if_pos (show bi false = 0 from rfl), if_neg (fun w => absurd w.1 (by decide)), B30_1, bnd_s, B28_7]
                  exact ⟨μ1, rfl, a2, SRd_3.tr a3⟩
                | true =>
                  rw [if_neg (show ¬ bi true = 0 from by decide), here_e (d + 3 * f + 5) hT a2, bnd_s]
                  by_cases q6 : hd (pl u f 0 (op + 1) rest.tail).2.1 = 41
                  · obtain ⟨m1, m2, m3⟩ := a2.next (by rw [q6]; decide)
                    rw [if_pos q6, if_pos ⟨rfl, q6⟩, B30_2, wf_e, w32_i (by omega) (by omega), bnd_s, B28_7]
                    exact ⟨_, rfl, m1, (SRd_3.tr a3).tr SRd_3⟩
                  · rw [if_neg q6, if_neg (fun w => q6 w.2), B30_1, bnd_s, B28_7]
                    exact ⟨μ1, rfl, a2, SRd_3.tr a3⟩
        · have hne : hd rest ≠ -1 := fun e => q2 (by rw [e]; exact nmo_m1 u)
          have etl := tail_len hne
          have nR : nmo u (hd rest) < 4 ∧ -1 ≤ nmo u (hd rest) := by
            unfold nmo
            split <;> (split <;> try split <;> try split <;> try split) <;> decide
          obtain ⟨μ1, g1, g2, g3⟩ := add_e (d + 3 * f + 6) h (by omega) (10000 + nmo u (hd rest))
          obtain ⟨n1, n2, n3⟩ := g2.next hne
          rw [if_neg q2, if_pos q2, w32_i (x := 10000 + nmo u (hd rest)) (by omega) (by omega), g1, bnd_s, wf_e, w32_i (by omega) (by omega)]
          exact ⟨_, rfl, n1, g3.tr SRd_3⟩
    refine ⟨A, fun d lv op rest p μ hf ho hlv h hp => ?_⟩
    by_cases q : lv = 5
    · subst q
      obtain ⟨μ1, a1, a2, a3⟩ := A d op rest p μ (by omega) ho h hp
      refine ⟨μ1, ?_, a2, a3⟩
      rw [M26 (d + 3 * (f + 1) + 5), if_neg (by decide), a1, bnd_s, rb_bi]
    · have hl5 : lv < 5 := by omega
      have hg : ∀ (rest p : List Int) (μ : amM), RS u T rest p μ → p.length + rest.length ≤ 50 → RdOk u T p μ (RD cr2 (d + 3 * f + 8) 26 [37, ((lv + 1 : Nat) : Int), (op : Int)] μ) (pl u f (lv + 1) op rest) := fun rest p μ h hp => by
        rw [show d + 3 * f + 8 = d + 2 + 3 * f + 6 by omega]
        exact ihB (d + 2) (lv + 1) op rest p μ (by omega) ho (by omega) h hp
      have hgl := fun l => pl_len u f (lv + 1) op l
      unfold RdOk pl
      obtain ⟨μ1, a1, a2, a3⟩ := hg rest p μ h hp
      have a1' : RD cr2 (d + 3 * f + 8) 26 [37, (lv : Int) + 1, (op : Int)] μ = some (bi (pl u f (lv + 1) op rest).1, μ1) := a1
      rw [if_neg (show ¬ 5 ≤ lv by omega), show d + 3 * (f + 1) + 6 = d + 3 * f + 8 + 1 by omega, M26, if_pos (by omega), B26_1, w32_i (by omega) (by omega), a1', bnd_s]
      cases hb : (pl u f (lv + 1) op rest).1 with
      | false =>
        rw [if_pos (show bi false = 0 from rfl), if_neg (show ¬ false = true by decide), hb]
        exact ⟨μ1, rfl, a2, a3⟩
      | true =>
        have hl2 := hgl rest
        rw [if_neg (show ¬ bi true = 0 from by decide), if_pos rfl, B26_2]
        have lp1 : ∀ m : Nat, m ≤ 50 → RdOk u T p μ1 (At cr2 (d + 3 * f + 8) 26 5 [] [37, (lv : Int), (op : Int), (m : Int), 0, 0] μ1) (lp (pl u f (lv + 1) op) lv m (pl u f (lv + 1) op rest).2.1 (pl u f (lv + 1) op rest).2.2) := fun m hm => lv_loop (d + 3 * f + 7) hT hl5 (op : Int) hgl hg p (m : Int) m 0 _ _ μ1 (by omega) (by omega) (by omega) a2 (by rw [List.length_append]; omega)
        by_cases q2 : lv = 2
        · obtain ⟨μ2, b1, b2, b3⟩ := lp1 1 (by decide)
          rw [if_pos (by omega), B26_4, if_pos q2]
          exact ⟨μ2, b1, b2, a3.tr b3⟩
        · obtain ⟨μ2, b1, b2, b3⟩ := lp1 50 (by decide)
          rw [if_neg (by omega), B26_3, B26_4, if_neg q2]
          exact ⟨μ2, b1, b2, a3.tr b3⟩

