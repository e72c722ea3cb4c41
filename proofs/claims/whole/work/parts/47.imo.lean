/-! ===== how long a text's parts are ===== -/
theorem tail_len {l : List Int} (h : hd l ≠ -1) : l.tail.length + 1 = l.length := by
  cases l with
  | nil => exact absurd rfl h
  | cons a l => rfl
theorem rdn_len : ∀ (k : Nat) (v : Int) (l : List Int), (rdn k v l).2.length ≤ l.length
  | 0, _, _ => Nat.le_refl _
  | _ + 1, _, [] => Nat.le_refl _
  | k + 1, v, c :: l => by
    unfold rdn
    by_cases q : 48 ≤ c ∧ c ≤ 57
    · rw [if_pos q]
      exact Nat.le_trans (rdn_len k _ l) (Nat.le_succ _)
    · rw [if_neg q]
      exact Nat.le_refl _
theorem sg_hd {lv : Nat} {l : List Int} (h : sg lv (hd l) = true) : hd l ≠ -1 := by
  intro q
  rw [q] at h
  unfold sg at h
  split at h <;> cases h
theorem lp_len {g : List Int → Bool × List Int × List Int} (hg : ∀ l, (g l).2.2.length + (g l).2.1.length ≤ l.length) (lv : Nat) : ∀ (n : Nat) (l p : List Int), (lp g lv n l p).2.2.length + (lp g lv n l p).2.1.length ≤ p.length + l.length
  | 0, _, _ => Nat.le_refl _
  | n + 1, l, p => by
    unfold lp
    by_cases q : sg lv (hd l) = true
    · have e := tail_len (sg_hd q)
      have e2 := hg l.tail
      rw [if_pos q]
      by_cases q2 : (g l.tail).1 = true
      · rw [if_pos q2]
        have := lp_len hg lv n (g l.tail).2.1 (p ++ (g l.tail).2.2 ++ [20000 + hd l])
        rw [List.length_append, List.length_append, List.length_singleton] at this
        omega
      · rw [if_neg q2]
        show (p ++ (g l.tail).2.2).length + (g l.tail).2.1.length ≤ _
        rw [List.length_append]
        omega
    · rw [if_neg q]
      exact Nat.le_refl _
theorem nmo_m1 (u : Nat) : nmo u (-1) = -1 := by
  unfold nmo
  by_cases q : u = 0
  · rw [if_pos q]; decide
  · rw [if_neg q]; decide
theorem pl_len (u : Nat) : ∀ (f lv op : Nat) (l : List Int), (pl u f lv op l).2.2.length + (pl u f lv op l).2.1.length ≤ l.length
  | 0, _, _, l => by
    show 0 + l.length ≤ l.length
    omega
  | f + 1, lv, op, l => by
    unfold pl
    by_cases q : 5 ≤ lv
    · rw [if_pos q]
      by_cases q1 : 48 ≤ hd l ∧ hd l ≤ 57
      · rw [if_pos q1]
        show 1 + (rdn 4 0 l).2.length ≤ l.length
        cases l with
        | nil => exact absurd (show (48 : Int) ≤ -1 from q1.1) (by decide)
        | cons c l =>
          have : rdn 4 0 (c :: l) = rdn 3 (10 * 0 + c - 48) l := if_pos q1
          rw [this]
          have := rdn_len 3 (10 * 0 + c - 48) l
          rw [List.length_cons]
          omega
      · rw [if_neg q1]
        by_cases q2 : nmo u (hd l) ≠ -1
        · rw [if_pos q2]
          have := tail_len (l := l) (fun e => by rw [e] at q2; exact q2 (nmo_m1 u))
          show 1 + l.tail.length ≤ l.length
          omega
        · rw [if_neg q2]
          by_cases q3 : (hd l ≠ 33 ∧ hd l ≠ 40) ∨ 5 ≤ op
          · rw [if_pos q3]
            show 0 + l.length ≤ l.length
            omega
          · have e : hd l ≠ -1 := fun e => by rw [e] at q3; exact q3 (Or.inl ⟨by decide, by decide⟩)
            have e2 := tail_len e
            rw [if_neg q3]
            by_cases q4 : hd l = 33
            · have ih := pl_len u f 5 (op + 1) l.tail
              rw [if_pos q4]
              by_cases q5 : (pl u f 5 (op + 1) l.tail).1 = true
              · rw [if_pos q5]
                show ((pl u f 5 (op + 1) l.tail).2.2 ++ [20033]).length + (pl u f 5 (op + 1) l.tail).2.1.length ≤ l.length
                rw [List.length_append, List.length_singleton]
                omega
              · rw [if_neg q5]
                omega
            · have ih := pl_len u f 0 (op + 1) l.tail
              rw [if_neg q4]
              by_cases q5 : (pl u f 0 (op + 1) l.tail).1 = true ∧ hd (pl u f 0 (op + 1) l.tail).2.1 = 41
              · rw [if_pos q5]
                show (pl u f 0 (op + 1) l.tail).2.2.length + (pl u f 0 (op + 1) l.tail).2.1.tail.length ≤ l.length
                have := List.length_tail (l := (pl u f 0 (op + 1) l.tail).2.1)
                omega
              · rw [if_neg q5]
                show (pl u f 0 (op + 1) l.tail).2.2.length + (pl u f 0 (op + 1) l.tail).2.1.length ≤ l.length
                omega
    · have ih := pl_len u f (lv + 1) op
      have i1 := ih l
      rw [if_neg q]
      by_cases q1 : (pl u f (lv + 1) op l).1 = true
      · rw [if_pos q1]
        have := lp_len ih lv (if lv = 2 then 1 else 50) (pl u f (lv + 1) op l).2.1 (pl u f (lv + 1) op l).2.2
        omega
      · rw [if_neg q1]
        exact i1
theorem cmp_len {u : Nat} {l : List Int} (h : l.length ≤ 50) : (cmp u l).length ≤ 50 := by
  have := pl_len u 60 0 0 l
  unfold cmp
  omega
/-! ===== image, restore ===== -/
def imageS (σ : St) : Int × St := (w32 (σ.img + 1), (σ.1, σ.1, w32 (σ.img + 1), σ.2.2.2))
def restoreS (σ : St) : Int × St := if σ.img = 0 then σ.no 2 else (σ.q.y, (σ.q, σ.2))
theorem image_ok {σ : St} (ok : σ.Ok) : (imageS σ).2.Ok := ⟨ok.1, fun _ => ok.1, ok.2.2⟩
theorem restore_ok {σ : St} (ok : σ.Ok) : (restoreS σ).2.Ok := if_ok (fun _ => ok) (fun q => ⟨ok.2.1 q, ok.2⟩)
theorem stSA_F {μ μ' : amM} (h : same stSA μ μ') : same FC μ μ' := by
  refine h.wide (fun c i q => ?_)
  by_cases e : 19 ≤ c ∧ c ≤ 36
  · obtain ⟨k, rfl⟩ := Nat.exists_eq_add_of_le e.1
    have hk : k ≤ 17 := by omega
    match k, hk, q with
    | 0, _, q =>
      match i with
      | 0 => rfl
      | 1 => rfl
      | 2 => rfl
      | 3 => rfl
      | i + 4 => cases q
    | 1, _, q =>
      match i with
      | 0 => rfl
      | 1 => rfl
      | 2 => rfl
      | 3 => rfl
      | 4 => rfl
      | 5 => rfl
      | 6 => rfl
      | i + 7 => cases q
    | 2, _, q => cases q
    | 3, _, q => cases q
    | 4, _, q => cases q
    | 5, _, q => cases q
    | 6, _, q => cases q
    | 7, _, q => rfl
    | 8, _, q => rfl
    | 9, _, q => rfl
    | 10, _, q => cases q
    | 11, _, q => cases q
    | 12, _, q =>
      match i with
      | 0 => rfl
      | 1 => rfl
      | 2 => cases q
      | i + 3 => rfl
    | 13, _, q => cases q
    | 14, _, q => rfl
    | 15, _, q =>
      match i with
      | 0 => rfl
      | 1 => rfl
      | 2 => cases q
      | i + 3 => rfl
    | 16, _, q => cases q
    | 17, _, q => rfl
    | k + 18, hk, _ => exact absurd hk (by omega)
  · unfold stSA
    rw [beq_f (show c ≠ 19 by omega), beq_f (show c ≠ 20 by omega), beq_f (show c ≠ 29 by omega), beq_f (show c ≠ 30 by omega), beq_f (show c ≠ 31 by omega), beq_f (show c ≠ 34 by omega), beq_f (show c ≠ 32 by omega), beq_f (show c ≠ 35 by omega)]
    by_cases e2 : 21 ≤ c
    · rw [ble_f (a := c) (b := 25) (by omega), Bool.and_false]; rfl
    · rw [ble_f (a := 21) (b := c) (by omega)]; rfl
theorem stSA_o {c i : Nat} (h : c < 19 ∨ 36 < c) : stSA c i = false := by
  unfold stSA
  rw [beq_f (show c ≠ 19 by omega), beq_f (show c ≠ 20 by omega), beq_f (show c ≠ 29 by omega), beq_f (show c ≠ 30 by omega), beq_f (show c ≠ 31 by omega), beq_f (show c ≠ 34 by omega), beq_f (show c ≠ 32 by omega), beq_f (show c ≠ 35 by omega)]
  by_cases e2 : 21 ≤ c
  · rw [ble_f (a := c) (b := 25) (by omega), Bool.and_false]; rfl
  · rw [ble_f (a := 21) (b := c) (by omega)]; rfl
theorem stSB_o {c i : Nat} (h : c < 1 ∨ 17 < c) : stSB c i = false := by
  unfold stSB
  rw [beq_f (show c ≠ 1 by omega), beq_f (show c ≠ 2 by omega), beq_f (show c ≠ 11 by omega), beq_f (show c ≠ 12 by omega), beq_f (show c ≠ 13 by omega), beq_f (show c ≠ 16 by omega), beq_f (show c ≠ 14 by omega), beq_f (show c ≠ 17 by omega)]
  by_cases e2 : 3 ≤ c
  · rw [ble_f (a := c) (b := 7) (by omega), Bool.and_false]; rfl
  · rw [ble_f (a := 3) (b := c) (by omega)]; rfl
theorem stSB_F {μ μ' : amM} (h : same stSB μ μ') : same FC μ μ' := by
  refine h.wide (fun c i q => ?_)
  by_cases e : 1 ≤ c ∧ c ≤ 17
  · obtain ⟨k, rfl⟩ := Nat.exists_eq_add_of_le e.1
    have hk : k ≤ 16 := by omega
    match k, hk, q with
    | 0, _, q =>
      match i with
      | 0 => rfl
      | 1 => rfl
      | 2 => rfl
      | 3 => rfl
      | i + 4 => cases q
    | 1, _, q =>
      match i with
      | 0 => rfl
      | 1 => rfl
      | 2 => rfl
      | 3 => rfl
      | 4 => rfl
      | 5 => rfl
      | 6 => rfl
      | i + 7 => cases q
    | 2, _, q => cases q
    | 3, _, q => cases q
    | 4, _, q => cases q
    | 5, _, q => cases q
    | 6, _, q => cases q
    | 7, _, q => rfl
    | 8, _, q => rfl
    | 9, _, q => rfl
    | 10, _, q => cases q
    | 11, _, q => cases q
    | 12, _, q =>
      match i with
      | 0 => rfl
      | 1 => rfl
      | 2 => cases q
      | i + 3 => rfl
    | 13, _, q => cases q
    | 14, _, q => rfl
    | 15, _, q =>
      match i with
      | 0 => rfl
      | 1 => rfl
      | 2 => cases q
      | i + 3 => rfl
    | 16, _, q => cases q
    | k + 17, hk, _ => exact absurd hk (by omega)
  · exact stSB_o (by omega)
theorem image_c (d : Nat) {σ : St} {μ : amM} (ok : σ.Ok) (h : CI σ μ) : OC μ (RD cr2 (d + 20) 135 [0] μ) (imageS σ) := by
  obtain ⟨a1, a2, a3, a4, a5, a6, a7⟩ := h
  obtain ⟨μ1, g1, g2, g3⟩ := takeA_e (d + 16) ok.1 (cmp_len ok.1.2.2.2.1.1.1) (cmp_len ok.1.2.2.2.1.2.1) a1
  have e0 : μ1 0 10 = σ.img := (g3 _ _ rfl).trans a3
  rw [M135, g1, bnd_s, wf_e, up_eq, e0]
  have s1 : same FC μ1 (up μ1 0 10 (w32 (σ.img + 1))) := same.rf.up rfl
  have s2 : same (fun c i => Nat.beq c 0 && Nat.beq i 10) μ1 (up μ1 0 10 (w32 (σ.img + 1))) := same.rf.up rfl
  have b1 := a1.keep g3 (fun _ _ => rfl) (fun _ _ => rfl) (fun j _ _ _ => stSA_o (by omega)) (fun _ => rfl) (fun _ => rfl) rfl (fun _ => rfl) rfl (fun _ => rfl)
  have k1 : ∀ {k : K}, CK 1 k μ1 → CK 1 k (up μ1 0 10 (w32 (σ.img + 1))) := fun {k} h => h.keep s2 (fun _ _ => rfl) (fun _ _ => rfl) (fun j _ _ _ => by rw [beq_f (show 1 + j ≠ 0 by omega)]; rfl) (fun _ => rfl) (fun _ => rfl) rfl (fun _ => rfl) rfl (fun _ => rfl)
  have k2 : ∀ {k : K}, CK 19 k μ1 → CK 19 k (up μ1 0 10 (w32 (σ.img + 1))) := fun {k} h => h.keep s2 (fun _ _ => rfl) (fun _ _ => rfl) (fun j _ _ _ => by rw [beq_f (show 19 + j ≠ 0 by omega)]; rfl) (fun _ => rfl) (fun _ => rfl) rfl (fun _ => rfl) rfl (fun _ => rfl)
  refine ⟨_, rfl, ⟨k1 b1, fun _ => k2 g2, up_eq _ _ _ _, (a4.keep g3 (fun _ => rfl)).keep s2 (fun _ => rfl), (a5.keep g3 (fun c i _ _ => stSA_o (by omega))).keep s2 (fun c i _ _ => by rw [beq_f (show c ≠ 0 by omega)]; rfl), (a6.keep g3 rfl (fun _ => rfl)).keep s2 rfl (fun _ => rfl), (a7.keep g3 rfl rfl (fun _ => rfl)).keep s2 rfl rfl (fun _ => rfl)⟩, (stSA_F g3).tr s1⟩
theorem restore_c (d : Nat) {σ : St} {μ : amM} (ok : σ.Ok) (h : CI σ μ) : OC μ (RD cr2 (d + 20) 136 [0] μ) (restoreS σ) := by
  unfold restoreS
  rw [M136, h.2.2.1]
  by_cases q : σ.img = 0
  · rw [if_pos q, if_pos q]
    exact (OC.no _ h (by decide) (by decide)).bi (fun _ _ => rfl)
  · obtain ⟨a1, a2, a3, a4, a5, a6, a7⟩ := h
    have okq := ok.2.1 q
    obtain ⟨μ1, g1, g2, g3⟩ := takeB_e (d + 16) okq (cmp_len okq.2.2.2.1.1.1) (cmp_len okq.2.2.2.1.2.1) (a2 q)
    rw [if_neg q, if_neg q, B136_1, g1, bnd_s, g2.2.2.2.2.1]
    exact ⟨μ1, rfl, ⟨g2, fun _ => (a2 q).keep g3 (fun _ _ => rfl) (fun _ _ => rfl) (fun j _ _ _ => stSB_o (by omega)) (fun _ => rfl) (fun _ => rfl) rfl (fun _ => rfl) rfl (fun _ => rfl), (g3 _ _ rfl).trans a3, a4.keep g3 (fun _ => rfl), a5.keep g3 (fun c i _ _ => stSB_o (by omega)), a6.keep g3 rfl (fun _ => rfl), a7.keep g3 rfl rfl (fun _ => rfl)⟩, stSB_F g3⟩
/-! the reference -/
theorem MK.cpy {a b : Nat} {k : K} {μ μ' : amM} (ok : k.Ok) (h : MK a k μ) (e : ∀ i, i < 576 → μ' b i = μ a i) : MK b k μ' := by
  have h64 := ok.1.le.2
  obtain ⟨⟨⟨c0, c1, c2, c3, c4⟩, c5⟩, a2, a3, ⟨a4, a5⟩, a6⟩ := h
  have n1 := ok.2.1.1
  have n2 := ok.2.2.1
  have n3 := ok.2.2.2.1.1.1
  have n4 := ok.2.2.2.1.2.1
  refine ⟨⟨⟨(e _ (by decide)).trans c0, (e _ (by decide)).trans c1, (e _ (by decide)).trans c2, (e _ (by decide)).trans c3, (e _ (by decide)).trans c4⟩, fun lot hl => ?_⟩, ⟨(e _ (by decide)).trans a2.1, fun i hi => (e _ (by omega)).trans (a2.2 i hi)⟩, ⟨(e _ (by decide)).trans a3.1, fun i hi => (e _ (by omega)).trans (a3.2 i hi)⟩, ⟨⟨(e _ (by decide)).trans a4.1, fun i hi => (e _ (by omega)).trans (a4.2 i hi)⟩, ⟨(e _ (by decide)).trans a5.1, fun i hi => (e _ (by omega)).trans (a5.2 i hi)⟩⟩, ⟨(e _ (by decide)).trans a6.1, (e _ (by decide)).trans a6.2.1, (e _ (by decide)).trans a6.2.2⟩⟩
  rw [e _ (by omega)]
  refine ⟨(c5 lot hl).1, fun hn => ⟨?_, fun j hj => ?_⟩⟩
  · rw [e _ (by omega)]
    exact ((c5 lot hl).2 hn).1
  · rw [e _ (by omega)]
    exact ((c5 lot hl).2 hn).2 j hj
theorem image_mloop (d : Nat) (ν : amM) : ∀ (n i : Nat) (μ : amM), i + n = 576 → same (fun c _ => Nat.beq c 73) ν μ → (∀ j, j < i → μ 73 j = ν 72 j) → ∃ μ', At cr2 d 259 1 [] [71, (i : Int)] μ = At cr2 d 259 2 [] [71, 0] μ' ∧ same (fun c _ => Nat.beq c 73) ν μ' ∧ ∀ j, j < 576 → μ' 73 j = ν 72 j
  | 0, i, μ, hi, hs, hq => by
    have hi : i = 576 := by omega
    subst hi
    rw [B259_1, if_neg (by omega)]
    exact ⟨μ, rfl, hs, hq⟩
  | n + 1, i, μ, hi, hs, hq => by
    rw [B259_1, if_pos (by omega), rd_p (by omega) (by omega), wr_p (by omega) (by omega), w32_i (by omega) (by omega), Int.toNat_natCast]
    refine image_mloop d ν n (i + 1) _ (by omega) (hs.up rfl) (fun j hj => ?_)
    rw [up_if]
    by_cases e : j = i
    · rw [if_pos e, e]; exact hs _ _ rfl
    · rw [if_neg e]; exact hq j (by omega)
theorem restore_mloop (d : Nat) (ν : amM) : ∀ (n i : Nat) (μ : amM), i + n = 576 → same (fun c _ => Nat.beq c 72) ν μ → (∀ j, j < i → μ 72 j = ν 73 j) → ∃ μ', At cr2 d 260 2 [] [71, (i : Int)] μ = At cr2 d 260 3 [] [71, 0] μ' ∧ same (fun c _ => Nat.beq c 72) ν μ' ∧ ∀ j, j < 576 → μ' 72 j = ν 73 j
  | 0, i, μ, hi, hs, hq => by
    have hi : i = 576 := by omega
    subst hi
    rw [B260_2, if_neg (by omega)]
    exact ⟨μ, rfl, hs, hq⟩
  | n + 1, i, μ, hi, hs, hq => by
    rw [B260_2, if_pos (by omega), rd_p (by omega) (by omega), wr_p (by omega) (by omega), w32_i (by omega) (by omega), Int.toNat_natCast]
    refine restore_mloop d ν n (i + 1) _ (by omega) (hs.up rfl) (fun j hj => ?_)
    rw [up_if]
    by_cases e : j = i
    · rw [if_pos e, e]; exact hs _ _ rfl
    · rw [if_neg e]; exact hq j (by omega)
theorem c73_F {μ μ' : amM} {c0 : Nat} (hc : c0 = 72 ∨ c0 = 73) (h : same (fun c _ => Nat.beq c c0) μ μ') : same FM μ μ' := by
  refine h.wide (fun c i q => ?_)
  cases e : Nat.beq c c0 with
  | false => rfl
  | true =>
    rcases hc with rfl | rfl <;> rw [Nat.eq_of_beq_eq_true e] at q <;> cases q
theorem image_m (d : Nat) {σ : St} {μ : amM} (ok : σ.Ok) (h : MI σ μ) : OM μ (RD cr2 (d + 20) 259 [71] μ) (imageS σ) := by
  obtain ⟨a1, a2, a3, a4, a5, a6⟩ := h
  obtain ⟨μ1, g1, g2, g3⟩ := image_mloop (d + 19) μ 576 0 μ rfl same.rf (fun j hj => absurd hj (Nat.not_lt_zero j))
  have e0 : μ1 71 2 = σ.img := (g2 _ _ rfl).trans a3
  have E : RD cr2 (d + 20) 259 [71] μ = some (w32 (σ.img + 1), up μ1 71 2 (w32 (σ.img + 1))) := by
    rw [M259]
    refine g1.trans ?_
    rw [B259_2, wf_e, up_eq, e0]
  have s2 : same (fun c i => Nat.beq c 71 && Nat.beq i 2) μ1 (up μ1 71 2 (w32 (σ.img + 1))) := same.rf.up rfl
  refine ⟨_, E, ⟨(a1.keep g2 (fun _ => rfl)).keep s2 (fun _ => rfl), fun _ => (a1.cpy (b := 73) ok.1 g3).keep s2 (fun _ => rfl), up_eq _ _ _ _, (a4.keep g2 (fun _ => rfl)).keep s2 (fun _ => rfl), (a5.keep g2 (fun _ => rfl) (fun _ => rfl) (fun _ => rfl)).keep s2 (fun _ => rfl) (fun _ => rfl) (fun _ => rfl), (a6.keep g2 rfl (fun _ => rfl)).keep s2 rfl (fun _ => rfl)⟩, (c73_F (Or.inr rfl) g2).tr (same.rf.up rfl)⟩
theorem restore_m (d : Nat) {σ : St} {μ : amM} (ok : σ.Ok) (h : MI σ μ) : OM μ (RD cr2 (d + 20) 260 [71] μ) (restoreS σ) := by
  unfold restoreS
  rw [M260, h.2.2.1]
  by_cases q : σ.img = 0
  · rw [if_pos q, if_pos q]
    exact (OM.no _ ok h (by decide) (by decide)).bi (fun _ _ => rfl)
  · obtain ⟨a1, a2, a3, a4, a5, a6⟩ := h
    have okq := ok.2.1 q
    obtain ⟨μ1, g1, g2, g3⟩ := restore_mloop (d + 19) μ 576 0 μ rfl same.rf (fun j hj => absurd hj (Nat.not_lt_zero j))
    have b1 := (a2 q).cpy (b := 72) okq g3
    rw [if_neg q, if_neg q, B260_1]
    show OM μ (At cr2 (d + 19) 260 2 [] [71, ((0 : Nat) : Int)] μ) _
    rw [g1, B260_3, b1.2.2.2.2.1]
    exact ⟨μ1, rfl, ⟨b1, fun _ => (a2 q).keep g2 (fun _ => rfl), (g2 _ _ rfl).trans a3, a4.keep g2 (fun _ => rfl), a5.keep g2 (fun _ => rfl) (fun _ => rfl) (fun _ => rfl), a6.keep g2 rfl (fun _ => rfl)⟩, c73_F (Or.inl rfl) g2⟩
