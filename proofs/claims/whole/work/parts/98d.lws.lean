/-! ===== the law: call by call ===== -/
theorem ck_all {μ : amM} (h : ckM μ = true) : (∀ q ∈ ckT, μ q.1 q.2.1 = q.2.2) ∧ (∀ k, k < 6 → μ 62 k = 0 ∧ μ 74 k = 0) ∧ (∀ k, k < 4 → ((μ (63 + 2 * k) 1 = 0 ∧ μ (63 + 2 * k) 2 = 0) ∧ (μ 91 k = 0 ∧ μ 92 k = 0) ∧ (μ 3 k = -1 ∧ μ 72 (20 + k) = 0) ∧ μ 7 k = ((nbs 1 4 0 k).length : Nat)) ∧ ∀ i, i < (nbs 1 4 0 k).length → μ 6 (4 * k + i) = ((nbs 1 4 0 k).getD i 0 : Nat)) ∧ (∀ j, j < 81 → μ 56 j = hc j) ∧ amAg μ := by
  unfold ckM at h
  rw [Bool.and_eq_true, Bool.and_eq_true, Bool.and_eq_true, Bool.and_eq_true] at h
  obtain ⟨h1, h2, h3, h4, h5⟩ := h
  refine ⟨fun q hq => of_decide_eq_true (List.all_eq_true.mp h1 q hq), fun k hk => of_decide_eq_true (List.all_eq_true.mp h2 k (List.mem_range.mpr hk)), fun k hk => ?_, fun j hj => of_decide_eq_true (List.all_eq_true.mp h4 j (List.mem_range.mpr hj)), fun c j v e => ?_⟩
  · have q := List.all_eq_true.mp h3 k (List.mem_range.mpr hk)
    rw [Bool.and_eq_true] at q
    exact ⟨of_decide_eq_true q.1, fun i hi => of_decide_eq_true (List.all_eq_true.mp q.2 i (List.mem_range.mpr hi))⟩
  · obtain ⟨hc, hj⟩ := cr2_lt e
    have q := List.all_eq_true.mp (List.all_eq_true.mp h5 c (List.mem_range.mpr hc)) j (List.mem_range.mpr hj)
    rw [e] at q
    exact of_decide_eq_true q
/-- the state at the start -/
def t0 : Tn := (1, 4, 0, 1, 1, fun _ => -1, fun _ => 0, fun _ => 0)
def k0 : K := (t0, (0, fun _ => 0), (0, fun _ => 0), ([], []), 0, 0, 1)
def s0 : St := (k0, k0, 0, fun _ => 0, (fun _ => 0, fun _ => 0, fun _ _ => 0), [])
theorem t0_ok : t0.Ok := ⟨⟨by decide, by decide, by decide, by decide, by decide, by decide, by decide, by decide⟩, fun lot _ => ⟨⟨by show (-1 : Int) ≤ -1; decide, by show (-1 : Int) ≤ 6; decide⟩, fun w => absurd rfl w⟩⟩
theorem tok0 (u : Nat) : TOk u [] := ⟨by decide, fun c hc => (by cases hc), Or.inl rfl⟩
theorem s0_ok : s0.Ok := ⟨⟨t0_ok, ⟨by decide, fun i hi => absurd hi (Nat.not_lt_zero i)⟩, by show 0 ≤ 20; decide, ⟨tok0 0, tok0 1⟩, ⟨by decide, by decide⟩, ⟨by decide, by decide⟩, ⟨by decide, by decide⟩⟩, fun w => absurd rfl w, fun k _ => ⟨Or.inl rfl, by show 0 ≤ 64; decide⟩, by decide⟩
theorem cmp_0 : cmp 0 [] = [] := by decide +kernel
theorem cmp_1 : cmp 1 [] = [] := by decide +kernel
theorem TX.nil {c u : Nat} {μ : amM} (hu : cmp u [] = []) (h : μ c 2 = 0) : TX c u [] μ := by
  unfold TX
  rw [hu]
  exact ⟨h, fun i hi => absurd hi (Nat.not_lt_zero i)⟩
theorem s0_I {μ : amM} (h1 : ∀ q ∈ ckT, μ q.1 q.2.1 = q.2.2) (h2 : ∀ k, k < 6 → μ 62 k = 0 ∧ μ 74 k = 0) (h3 : ∀ k, k < 4 → ((μ (63 + 2 * k) 1 = 0 ∧ μ (63 + 2 * k) 2 = 0) ∧ (μ 91 k = 0 ∧ μ 92 k = 0) ∧ (μ 3 k = -1 ∧ μ 72 (20 + k) = 0) ∧ μ 7 k = ((nbs 1 4 0 k).length : Nat)) ∧ ∀ i, i < (nbs 1 4 0 k).length → μ 6 (4 * k + i) = ((nbs 1 4 0 k).getD i 0 : Nat)) (h4 : ∀ j, j < 81 → μ 56 j = hc j) : CI s0 μ ∧ MI s0 μ := by
  have e : ∀ c i v, (c, i, v) ∈ ckT → μ c i = v := fun c i v hm => h1 (c, i, v) hm
  have no : ∀ {P : Prop} (i : Nat), i < 0 → P := fun i hi => absurd hi (Nat.not_lt_zero i)
  have tc : TC 2 t0 μ := ⟨⟨e 2 7 1 (by decide), e 2 8 4 (by decide), e 2 9 0 (by decide), e 2 10 4 (by decide), e 2 11 1 (by decide), e 2 12 1 (by decide)⟩, fun lot hl => ⟨(h3 lot hl).1.2.2.1.1, fun w => absurd rfl w⟩, fun lot hl => ⟨(h3 lot hl).1.2.2.2, (h3 lot hl).2⟩⟩
  have tm : TM 72 t0 μ := ⟨⟨e 72 0 1 (by decide), e 72 1 4 (by decide), e 72 2 0 (by decide), e 72 3 1 (by decide), e 72 4 1 (by decide)⟩, fun lot hl => ⟨(h3 lot hl).1.2.2.1.2, fun w => absurd rfl w⟩⟩
  refine ⟨⟨⟨tc, ⟨e 1 4 0 (by decide), fun i hi => no i hi⟩, ⟨e 1 5 0 (by decide), fun i hi => no i hi⟩, ⟨TX.nil cmp_0 (e 13 2 0 (by decide)), TX.nil cmp_1 (e 16 2 0 (by decide))⟩, ⟨e 1 6 0 (by decide), e 1 7 0 (by decide), e 1 8 1 (by decide)⟩⟩, fun w => absurd rfl w, e 0 10 0 (by decide), fun k hk => (h2 k hk).1, fun k hk => ⟨(h3 k hk).1.1.1, (h3 k hk).1.1.2, fun i hi => no i hi⟩, ⟨e 59 1 0 (by decide), fun i hi => no i hi⟩, ⟨Or.inl ⟨e 55 1 57 (by decide), e 55 2 58 (by decide)⟩, h4⟩⟩, ⟨⟨tm, ⟨e 72 8 0 (by decide), fun i hi => no i hi⟩, ⟨e 72 9 0 (by decide), fun i hi => no i hi⟩, ⟨⟨e 72 404 0 (by decide), fun i hi => no i hi⟩, ⟨e 72 405 0 (by decide), fun i hi => no i hi⟩⟩, ⟨e 72 5 0 (by decide), e 72 6 0 (by decide), e 72 7 1 (by decide)⟩⟩, fun w => absurd rfl w, e 71 2 0 (by decide), fun k hk => (h2 k hk).2, fun k hk => ⟨(h3 k hk).1.2.1.1, (h3 k hk).1.2.1.2, fun i hi => no i hi⟩, ⟨e 71 33 0 (by decide), fun i hi => no i hi⟩⟩⟩
/-- what holds between the calls -/
def LI (sc : Nat → Int) (σ : St) (μ : amM) : Prop := σ.Ok ∧ CI σ μ ∧ MI σ μ ∧ (∀ j, μ 302 j = sc j) ∧ μ 999 0 = 95
theorem FM_999 (i : Nat) : FM 999 i = false := FM_out (by decide)
theorem lw_c {sc : Nat → Int} {σ : St} {μ : amM} {r : amR} {s : Int × St} (h : LI sc σ μ) (hC : OC μ r s) : ∃ μ1, r = some (s.1, μ1) ∧ CI s.2 μ1 ∧ MI σ μ1 ∧ (∀ j, μ1 302 j = sc j) ∧ μ1 999 0 = 95 := by
  obtain ⟨μ1, a, b, c⟩ := hC
  exact ⟨μ1, a, b, h.2.2.1.other c, fun j => (c _ _ (FC_lo (by decide))).trans (h.2.2.2.1 j), (c _ _ (FC_lo (by decide))).trans h.2.2.2.2⟩
theorem lw_m {sc : Nat → Int} {μ1 : amM} {r : amR} {s : Int × St} (hc : CI s.2 μ1) (h3 : ∀ j, μ1 302 j = sc j) (h9 : μ1 999 0 = 95) (hM : OM μ1 r s) : ∃ μ2, r = some (s.1, μ2) ∧ (s.2.Ok → LI sc s.2 μ2) := by
  obtain ⟨μ2, a, b, c⟩ := hM
  exact ⟨μ2, a, fun ok => ⟨ok, hc.other c, b, fun j => (c _ _ (FM_out (by decide))).trans (h3 j), (c _ _ (FM_out (by decide))).trans h9⟩⟩
theorem ldx {L : Nat} {sc : Nat → Int} {μ : amM} {x : Nat} (hs : ∀ j, μ 302 j = sc j) (s0 : sc 0 = (L : Int)) (h3 : L ≤ 3072) (k : Nat) (hk : x + k < L) {f : Int → amR} : amAld μ 302 (w32 ((x : Int) + (k : Int))) f = f (sc (x + k + 1)) := by
  have w : w32 ((x : Int) + (k : Int)) = ((x + k : Nat) : Int) := by
    rw [w32_i (by omega) (by omega)]; omega
  have e0 : μ 302 0 = (L : Int) := (hs 0).trans s0
  unfold amAld
  rw [w, if_neg (by decide), if_neg (by decide), if_pos (by decide), e0, if_pos ⟨geI _, by omega⟩, Int.toNat_natCast, hs]
theorem ld1 {L : Nat} {sc : Nat → Int} {μ : amM} {x : Nat} (hs : ∀ j, μ 302 j = sc j) (s0 : sc 0 = (L : Int)) (h3 : L ≤ 3072) (hx : x + 5 < L) {f : Int → amR} : amAld μ 302 (w32 ((x : Int) + 1)) f = f (sc (x + 2)) := ldx hs s0 h3 1 (by omega)
theorem ld2 {L : Nat} {sc : Nat → Int} {μ : amM} {x : Nat} (hs : ∀ j, μ 302 j = sc j) (s0 : sc 0 = (L : Int)) (h3 : L ≤ 3072) (hx : x + 5 < L) {f : Int → amR} : amAld μ 302 (w32 ((x : Int) + 2)) f = f (sc (x + 3)) := ldx hs s0 h3 2 (by omega)
theorem ld3 {L : Nat} {sc : Nat → Int} {μ : amM} {x : Nat} (hs : ∀ j, μ 302 j = sc j) (s0 : sc 0 = (L : Int)) (h3 : L ≤ 3072) (hx : x + 5 < L) {f : Int → amR} : amAld μ 302 (w32 ((x : Int) + 3)) f = f (sc (x + 4)) := ldx hs s0 h3 3 (by omega)
theorem ld4 {L : Nat} {sc : Nat → Int} {μ : amM} {x : Nat} (hs : ∀ j, μ 302 j = sc j) (s0 : sc 0 = (L : Int)) (h3 : L ≤ 3072) (hx : x + 5 < L) {f : Int → amR} : amAld μ 302 (w32 ((x : Int) + 4)) f = f (sc (x + 5)) := ldx hs s0 h3 4 (by omega)
theorem ld5 {L : Nat} {sc : Nat → Int} {μ : amM} {x : Nat} (hs : ∀ j, μ 302 j = sc j) (s0 : sc 0 = (L : Int)) (h3 : L ≤ 3072) (hx : x + 5 < L) {f : Int → amR} : amAld μ 302 (w32 ((x : Int) + 5)) f = f (sc (x + 6)) := ldx hs s0 h3 5 (by omega)
theorem lcm_s (v : Int) {a b : amR} : (if (if v < v then (-1 : Int) else if v = v then 0 else 1) = 0 then a else b) = a := by
  rw [if_neg (Int.lt_irrefl v), if_pos rfl, if_pos rfl]
theorem op_2 {L : Nat} {sc : Nat → Int} {σ : St} {μ : amM} {x : Nat} (s0 : sc 0 = (L : Int)) (i5 : ∀ j, i32 (sc (j + 1))) (h3 : L ≤ 3072) (hx : x + 5 < L) (h : LI sc σ μ) : ∃ σ' μ', At cr2 2000 268 2 [] [302, 0, 71, (x : Int)] μ = At cr2 2000 268 44 [] [302, 0, 71, (x : Int)] μ' ∧ LI sc σ' μ' := by
  have hs := h.2.2.2.1
  obtain ⟨μ1, a1, a2, a3, a4, a5⟩ := lw_c h (town_c 1980 h.2.1 (sc (x + 2)) (sc (x + 3)) (sc (x + 4)))
  obtain ⟨μ2, b1, b2⟩ := lw_m (sc := sc) a2 a4 a5 (town_m 1980 h.1 a3 (sc (x + 2)) (sc (x + 3)) (sc (x + 4)))
  have a1 : RD cr2 2000 99 [0, (sc (x + 2)), (sc (x + 3)), (sc (x + 4))] μ = _ := a1
  have b1 : RD cr2 2000 187 [71, (sc (x + 2)), (sc (x + 3)), (sc (x + 4))] μ1 = _ := b1
  refine ⟨_, μ2, ?_, b2 (town_ok h.1 (sc (x + 2)) (sc (x + 3)) (sc (x + 4)))⟩
  rw [B268_2, ld1 hs s0 h3 hx, ld2 hs s0 h3 hx, ld3 hs s0 h3 hx, a1, bnd_s, ld1 a4 s0 h3 hx, ld2 a4 s0 h3 hx, ld3 a4 s0 h3 hx, b1, bnd_s, if_pos rfl]
theorem op_3 {L : Nat} {sc : Nat → Int} {σ : St} {μ : amM} {x : Nat} (s0 : sc 0 = (L : Int)) (i5 : ∀ j, i32 (sc (j + 1))) (h3 : L ≤ 3072) (hx : x + 5 < L) (h : LI sc σ μ) : ∃ σ' μ', At cr2 2000 268 3 [] [302, 0, 71, (x : Int)] μ = At cr2 2000 268 44 [] [302, 0, 71, (x : Int)] μ' ∧ LI sc σ' μ' := by
  have hs := h.2.2.2.1
  obtain ⟨μ1, a1, a2, a3, a4, a5⟩ := lw_c h (rule_c 1980 h.2.1 (sc (x + 2)) (sc (x + 3)))
  obtain ⟨μ2, b1, b2⟩ := lw_m (sc := sc) a2 a4 a5 (rule_m 1980 h.1 a3 (sc (x + 2)) (sc (x + 3)))
  have a1 : RD cr2 2000 100 [0, (sc (x + 2)), (sc (x + 3))] μ = _ := a1
  have b1 : RD cr2 2000 188 [71, (sc (x + 2)), (sc (x + 3))] μ1 = _ := b1
  refine ⟨_, μ2, ?_, b2 (rule_ok h.1 (sc (x + 2)) (sc (x + 3)))⟩
  rw [B268_3, ld1 hs s0 h3 hx, ld2 hs s0 h3 hx, a1, bnd_s, ld1 a4 s0 h3 hx, ld2 a4 s0 h3 hx, b1, bnd_s, if_pos rfl]
theorem op_4 {L : Nat} {sc : Nat → Int} {σ : St} {μ : amM} {x : Nat} (s0 : sc 0 = (L : Int)) (i5 : ∀ j, i32 (sc (j + 1))) (h3 : L ≤ 3072) (hx : x + 5 < L) (h : LI sc σ μ) : ∃ σ' μ', At cr2 2000 268 4 [] [302, 0, 71, (x : Int)] μ = At cr2 2000 268 44 [] [302, 0, 71, (x : Int)] μ' ∧ LI sc σ' μ' := by
  have hs := h.2.2.2.1
  obtain ⟨μ1, a1, a2, a3, a4, a5⟩ := lw_c h (build_c 1980 h.1 h.2.1 (sc (x + 2)) (sc (x + 3)) (sc (x + 4)))
  obtain ⟨μ2, b1, b2⟩ := lw_m (sc := sc) a2 a4 a5 (build_m 1980 h.1 a3 (sc (x + 2)) (sc (x + 3)) (sc (x + 4)))
  have a1 : RD cr2 2000 101 [0, (sc (x + 2)), (sc (x + 3)), (sc (x + 4))] μ = _ := a1
  have b1 : RD cr2 2000 190 [71, (sc (x + 2)), (sc (x + 3)), (sc (x + 4))] μ1 = _ := b1
  refine ⟨_, μ2, ?_, b2 (build_ok h.1 (sc (x + 2)) (sc (x + 3)) (sc (x + 4)))⟩
  rw [B268_4, ld1 hs s0 h3 hx, ld2 hs s0 h3 hx, ld3 hs s0 h3 hx, a1, bnd_s, ld1 a4 s0 h3 hx, ld2 a4 s0 h3 hx, ld3 a4 s0 h3 hx, b1, bnd_s, if_pos rfl]
theorem op_5 {L : Nat} {sc : Nat → Int} {σ : St} {μ : amM} {x : Nat} (s0 : sc 0 = (L : Int)) (i5 : ∀ j, i32 (sc (j + 1))) (h3 : L ≤ 3072) (hx : x + 5 < L) (h : LI sc σ μ) : ∃ σ' μ', At cr2 2000 268 5 [] [302, 0, 71, (x : Int)] μ = At cr2 2000 268 44 [] [302, 0, 71, (x : Int)] μ' ∧ LI sc σ' μ' := by
  have hs := h.2.2.2.1
  obtain ⟨μ1, a1, a2, a3, a4, a5⟩ := lw_c h (pull_c 1980 h.1 h.2.1 (sc (x + 2)))
  obtain ⟨μ2, b1, b2⟩ := lw_m (sc := sc) a2 a4 a5 (pull_m 1980 h.1 a3 (sc (x + 2)))
  have a1 : RD cr2 2000 102 [0, (sc (x + 2))] μ = _ := a1
  have b1 : RD cr2 2000 192 [71, (sc (x + 2))] μ1 = _ := b1
  refine ⟨_, μ2, ?_, b2 (pull_ok h.1 (sc (x + 2)))⟩
  rw [B268_5, ld1 hs s0 h3 hx, a1, bnd_s, ld1 a4 s0 h3 hx, b1, bnd_s, if_pos rfl]
theorem op_6 {L : Nat} {sc : Nat → Int} {σ : St} {μ : amM} {x : Nat} (s0 : sc 0 = (L : Int)) (i5 : ∀ j, i32 (sc (j + 1))) (h3 : L ≤ 3072) (hx : x + 5 < L) (h : LI sc σ μ) : ∃ σ' μ', At cr2 2000 268 6 [] [302, 0, 71, (x : Int)] μ = At cr2 2000 268 44 [] [302, 0, 71, (x : Int)] μ' ∧ LI sc σ' μ' := by
  have hs := h.2.2.2.1
  obtain ⟨μ1, a1, a2, a3, a4, a5⟩ := lw_c h (ofLot_c 1980 h.1 h.2.1 (sc (x + 2)) (sc (x + 3)))
  obtain ⟨μ2, b1, b2⟩ := lw_m (sc := sc) a2 a4 a5 (ofLot_m 1930 h.1 a3 (sc (x + 2)) (sc (x + 3)))
  have a1 : RD cr2 2000 103 [0, (sc (x + 2)), (sc (x + 3))] μ = _ := a1
  have b1 : RD cr2 2000 193 [71, (sc (x + 2)), (sc (x + 3))] μ1 = _ := b1
  refine ⟨_, μ2, ?_, b2 (ofLot_ok h.1 (sc (x + 2)) (sc (x + 3)))⟩
  rw [B268_6, ld1 hs s0 h3 hx, ld2 hs s0 h3 hx, a1, bnd_s, ld1 a4 s0 h3 hx, ld2 a4 s0 h3 hx, b1, bnd_s, if_pos rfl]
theorem op_7 {L : Nat} {sc : Nat → Int} {σ : St} {μ : amM} {x : Nat} (s0 : sc 0 = (L : Int)) (i5 : ∀ j, i32 (sc (j + 1))) (h3 : L ≤ 3072) (hx : x + 5 < L) (h : LI sc σ μ) : ∃ σ' μ', At cr2 2000 268 7 [] [302, 0, 71, (x : Int)] μ = At cr2 2000 268 44 [] [302, 0, 71, (x : Int)] μ' ∧ LI sc σ' μ' := by
  have hs := h.2.2.2.1
  obtain ⟨μ1, a1, a2, a3, a4, a5⟩ := lw_c h (become_c 1980 h.1 h.2.1 (sc (x + 2)) (sc (x + 3)))
  obtain ⟨μ2, b1, b2⟩ := lw_m (sc := sc) a2 a4 a5 (become_m 1980 h.1 a3 (sc (x + 2)) (sc (x + 3)))
  have a1 : RD cr2 2000 104 [0, (sc (x + 2)), (sc (x + 3))] μ = _ := a1
  have b1 : RD cr2 2000 194 [71, (sc (x + 2)), (sc (x + 3))] μ1 = _ := b1
  refine ⟨_, μ2, ?_, b2 (become_ok h.1 (sc (x + 2)) (sc (x + 3)))⟩
  rw [B268_7, ld1 hs s0 h3 hx, ld2 hs s0 h3 hx, a1, bnd_s, ld1 a4 s0 h3 hx, ld2 a4 s0 h3 hx, b1, bnd_s, if_pos rfl]
theorem op_8 {L : Nat} {sc : Nat → Int} {σ : St} {μ : amM} {x : Nat} (s0 : sc 0 = (L : Int)) (i5 : ∀ j, i32 (sc (j + 1))) (h3 : L ≤ 3072) (hx : x + 5 < L) (h : LI sc σ μ) : ∃ σ' μ', At cr2 2000 268 8 [] [302, 0, 71, (x : Int)] μ = At cr2 2000 268 44 [] [302, 0, 71, (x : Int)] μ' ∧ LI sc σ' μ' := by
  have hs := h.2.2.2.1
  obtain ⟨μ1, a1, a2, a3, a4, a5⟩ := lw_c h (as_c 1980 h.1 h.2.1 (sc (x + 2)) (sc (x + 3)))
  obtain ⟨μ2, b1, b2⟩ := lw_m (sc := sc) a2 a4 a5 (as_m 1980 h.1 a3 (sc (x + 2)) (sc (x + 3)))
  have a1 : RD cr2 2000 105 [0, (sc (x + 2)), (sc (x + 3))] μ = _ := a1
  have b1 : RD cr2 2000 196 [71, (sc (x + 2)), (sc (x + 3))] μ1 = _ := b1
  refine ⟨_, μ2, ?_, b2 (as_ok h.1 (sc (x + 2)) (sc (x + 3)))⟩
  rw [B268_8, ld1 hs s0 h3 hx, ld2 hs s0 h3 hx, a1, bnd_s, ld1 a4 s0 h3 hx, ld2 a4 s0 h3 hx, b1, bnd_s, if_pos rfl]
theorem op_9 {L : Nat} {sc : Nat → Int} {σ : St} {μ : amM} {x : Nat} (s0 : sc 0 = (L : Int)) (i5 : ∀ j, i32 (sc (j + 1))) (h3 : L ≤ 3072) (hx : x + 5 < L) (h : LI sc σ μ) : ∃ σ' μ', At cr2 2000 268 9 [] [302, 0, 71, (x : Int)] μ = At cr2 2000 268 44 [] [302, 0, 71, (x : Int)] μ' ∧ LI sc σ' μ' := by
  have hs := h.2.2.2.1
  obtain ⟨μ1, a1, a2, a3, a4, a5⟩ := lw_c h (paint_c 1980 h.1 h.2.1 (sc (x + 2)) (sc (x + 3)) (sc (x + 4)))
  obtain ⟨μ2, b1, b2⟩ := lw_m (sc := sc) a2 a4 a5 (paint_m 1930 h.1 a3 (sc (x + 2)) (sc (x + 3)) (sc (x + 4)))
  have a1 : RD cr2 2000 106 [0, (sc (x + 2)), (sc (x + 3)), (sc (x + 4))] μ = _ := a1
  have b1 : RD cr2 2000 199 [71, (sc (x + 2)), (sc (x + 3)), (sc (x + 4))] μ1 = _ := b1
  refine ⟨_, μ2, ?_, b2 (paint_ok h.1 (sc (x + 2)) (sc (x + 3)) (sc (x + 4)))⟩
  rw [B268_9, ld1 hs s0 h3 hx, ld2 hs s0 h3 hx, ld3 hs s0 h3 hx, a1, bnd_s, ld1 a4 s0 h3 hx, ld2 a4 s0 h3 hx, ld3 a4 s0 h3 hx, b1, bnd_s, if_pos rfl]
theorem op_10 {L : Nat} {sc : Nat → Int} {σ : St} {μ : amM} {x : Nat} (s0 : sc 0 = (L : Int)) (i5 : ∀ j, i32 (sc (j + 1))) (h3 : L ≤ 3072) (hx : x + 5 < L) (h : LI sc σ μ) : ∃ σ' μ', At cr2 2000 268 10 [] [302, 0, 71, (x : Int)] μ = At cr2 2000 268 44 [] [302, 0, 71, (x : Int)] μ' ∧ LI sc σ' μ' := by
  have hs := h.2.2.2.1
  obtain ⟨μ1, a1, a2, a3, a4, a5⟩ := lw_c h (alike_c 1980 h.1 h.2.1 (sc (x + 2)) (sc (x + 3)))
  obtain ⟨μ2, b1, b2⟩ := lw_m (sc := sc) a2 a4 a5 (alike_m 1980 h.1 a3 (sc (x + 2)) (sc (x + 3)))
  have a1 : RD cr2 2000 107 [0, (sc (x + 2)), (sc (x + 3))] μ = _ := a1
  have b1 : RD cr2 2000 200 [71, (sc (x + 2)), (sc (x + 3))] μ1 = _ := b1
  refine ⟨_, μ2, ?_, b2 (alike_ok h.1 (sc (x + 2)) (sc (x + 3)))⟩
  rw [B268_10, ld1 hs s0 h3 hx, ld2 hs s0 h3 hx, a1, bnd_s, ld1 a4 s0 h3 hx, ld2 a4 s0 h3 hx, b1, bnd_s, if_pos rfl]
theorem op_11 {L : Nat} {sc : Nat → Int} {σ : St} {μ : amM} {x : Nat} (s0 : sc 0 = (L : Int)) (i5 : ∀ j, i32 (sc (j + 1))) (h3 : L ≤ 3072) (hx : x + 5 < L) (h : LI sc σ μ) : ∃ σ' μ', At cr2 2000 268 11 [] [302, 0, 71, (x : Int)] μ = At cr2 2000 268 44 [] [302, 0, 71, (x : Int)] μ' ∧ LI sc σ' μ' := by
  have hs := h.2.2.2.1
  obtain ⟨μ1, a1, a2, a3, a4, a5⟩ := lw_c h (may_c 1980 h.1 h.2.1 (sc (x + 2)) (i5 _))
  obtain ⟨μ2, b1, b2⟩ := lw_m (sc := sc) a2 a4 a5 (may_m 1980 h.1 a3 (sc (x + 2)) (i5 _))
  have a1 : RD cr2 2000 108 [0, (sc (x + 2)), (sc (x + 3))] μ = _ := a1
  have b1 : RD cr2 2000 204 [71, (sc (x + 2)), (sc (x + 3))] μ1 = _ := b1
  refine ⟨_, μ2, ?_, b2 (may_ok h.1 (sc (x + 2)) (sc (x + 3)))⟩
  rw [B268_11, ld1 hs s0 h3 hx, ld2 hs s0 h3 hx, a1, bnd_s, ld1 a4 s0 h3 hx, ld2 a4 s0 h3 hx, b1, bnd_s, if_pos rfl]
theorem op_12 {L : Nat} {sc : Nat → Int} {σ : St} {μ : amM} {x : Nat} (s0 : sc 0 = (L : Int)) (i5 : ∀ j, i32 (sc (j + 1))) (h3 : L ≤ 3072) (hx : x + 5 < L) (h : LI sc σ μ) : ∃ σ' μ', At cr2 2000 268 12 [] [302, 0, 71, (x : Int)] μ = At cr2 2000 268 44 [] [302, 0, 71, (x : Int)] μ' ∧ LI sc σ' μ' := by
  have hs := h.2.2.2.1
  obtain ⟨μ1, a1, a2, a3, a4, a5⟩ := lw_c h (wrong_c 1980 h.1 h.2.1 (sc (x + 2)))
  obtain ⟨μ2, b1, b2⟩ := lw_m (sc := sc) a2 a4 a5 (wrong_m 1980 h.1 a3 (sc (x + 2)))
  have a1 : RD cr2 2000 109 [0, (sc (x + 2))] μ = _ := a1
  have b1 : RD cr2 2000 205 [71, (sc (x + 2))] μ1 = _ := b1
  refine ⟨_, μ2, ?_, b2 (wrong_ok h.1 (sc (x + 2)))⟩
  rw [B268_12, ld1 hs s0 h3 hx, a1, bnd_s, ld1 a4 s0 h3 hx, b1, bnd_s, if_pos rfl]
theorem op_13 {L : Nat} {sc : Nat → Int} {σ : St} {μ : amM} {x : Nat} (s0 : sc 0 = (L : Int)) (i5 : ∀ j, i32 (sc (j + 1))) (h3 : L ≤ 3072) (hx : x + 5 < L) (h : LI sc σ μ) : ∃ σ' μ', At cr2 2000 268 13 [] [302, 0, 71, (x : Int)] μ = At cr2 2000 268 44 [] [302, 0, 71, (x : Int)] μ' ∧ LI sc σ' μ' := by
  have hs := h.2.2.2.1
  obtain ⟨μ1, a1, a2, a3, a4, a5⟩ := lw_c h (feed_c 1980 h.1 h.2.1 (lOr (lShl (sc (x + 2)) 32) (lAnd (sc (x + 3)) 4294967295)) (sc (x + 4)))
  obtain ⟨μ2, b1, b2⟩ := lw_m (sc := sc) a2 a4 a5 (feed_m 1980 h.1 a3 (lOr (lShl (sc (x + 2)) 32) (lAnd (sc (x + 3)) 4294967295)) (sc (x + 4)))
  have a1 : RD cr2 2000 110 [0, (lOr (lShl (sc (x + 2)) 32) (lAnd (sc (x + 3)) 4294967295)), (sc (x + 4))] μ = _ := a1
  have b1 : RD cr2 2000 170 [71, (lOr (lShl (sc (x + 2)) 32) (lAnd (sc (x + 3)) 4294967295)), (sc (x + 4))] μ1 = _ := b1
  refine ⟨_, μ2, ?_, b2 (feed_ok h.1 (lOr (lShl (sc (x + 2)) 32) (lAnd (sc (x + 3)) 4294967295)) (sc (x + 4)))⟩
  rw [B268_13, ld1 hs s0 h3 hx, ld2 hs s0 h3 hx, ld3 hs s0 h3 hx, a1, bnd_s, ld1 a4 s0 h3 hx, ld2 a4 s0 h3 hx, ld3 a4 s0 h3 hx, b1, bnd_s, if_pos rfl]
theorem op_14 {L : Nat} {sc : Nat → Int} {σ : St} {μ : amM} {x : Nat} (s0 : sc 0 = (L : Int)) (i5 : ∀ j, i32 (sc (j + 1))) (h3 : L ≤ 3072) (hx : x + 5 < L) (h : LI sc σ μ) : ∃ σ' μ', At cr2 2000 268 14 [] [302, 0, 71, (x : Int)] μ = At cr2 2000 268 44 [] [302, 0, 71, (x : Int)] μ' ∧ LI sc σ' μ' := by
  have hs := h.2.2.2.1
  obtain ⟨μ1, a1, a2, a3, a4, a5⟩ := lw_c h (text_c 1810 h.1 h.2.1 (sc (x + 2)))
  obtain ⟨μ2, b1, b2⟩ := lw_m (sc := sc) a2 a4 a5 (text_m 1930 h.1 a3 (sc (x + 2)))
  have a1 : RD cr2 2000 111 [0, (sc (x + 2))] μ = _ := a1
  have b1 : RD cr2 2000 171 [71, (sc (x + 2))] μ1 = _ := b1
  refine ⟨_, μ2, ?_, b2 (text_ok h.1 (sc (x + 2)))⟩
  rw [B268_14, ld1 hs s0 h3 hx, a1, bnd_s, ld1 a4 s0 h3 hx, b1, bnd_s, if_pos rfl]
theorem op_15 {L : Nat} {sc : Nat → Int} {σ : St} {μ : amM} {x : Nat} (s0 : sc 0 = (L : Int)) (i5 : ∀ j, i32 (sc (j + 1))) (h3 : L ≤ 3072) (hx : x + 5 < L) (h : LI sc σ μ) : ∃ σ' μ', At cr2 2000 268 15 [] [302, 0, 71, (x : Int)] μ = At cr2 2000 268 44 [] [302, 0, 71, (x : Int)] μ' ∧ LI sc σ' μ' := by
  have hs := h.2.2.2.1
  obtain ⟨μ1, a1, a2, a3, a4, a5⟩ := lw_c h (law_c 1980 h.1 h.2.1 (sc (x + 2)) (sc (x + 3)) (sc (x + 4)) (sc (x + 5)) (sc (x + 6)))
  obtain ⟨μ2, b1, b2⟩ := lw_m (sc := sc) a2 a4 a5 (law_m 1930 h.1 a3 (sc (x + 2)) (sc (x + 3)) (sc (x + 4)) (sc (x + 5)) (sc (x + 6)))
  have a1 : RD cr2 2000 112 [0, (sc (x + 2)), (sc (x + 3)), (sc (x + 4)), (sc (x + 5)), (sc (x + 6))] μ = _ := a1
  have b1 : RD cr2 2000 173 [71, (sc (x + 2)), (sc (x + 3)), (sc (x + 4)), (sc (x + 5)), (sc (x + 6))] μ1 = _ := b1
  refine ⟨_, μ2, ?_, b2 (law_ok h.1 (sc (x + 2)) (sc (x + 3)) (sc (x + 4)) (sc (x + 5)) (sc (x + 6)))⟩
  rw [B268_15, ld1 hs s0 h3 hx, ld2 hs s0 h3 hx, ld3 hs s0 h3 hx, ld4 hs s0 h3 hx, ld5 hs s0 h3 hx, a1, bnd_s, ld1 a4 s0 h3 hx, ld2 a4 s0 h3 hx, ld3 a4 s0 h3 hx, ld4 a4 s0 h3 hx, ld5 a4 s0 h3 hx, b1, bnd_s, if_pos rfl]
theorem op_16 {L : Nat} {sc : Nat → Int} {σ : St} {μ : amM} {x : Nat} (s0 : sc 0 = (L : Int)) (i5 : ∀ j, i32 (sc (j + 1))) (h3 : L ≤ 3072) (hx : x + 5 < L) (h : LI sc σ μ) : ∃ σ' μ', At cr2 2000 268 16 [] [302, 0, 71, (x : Int)] μ = At cr2 2000 268 44 [] [302, 0, 71, (x : Int)] μ' ∧ LI sc σ' μ' := by
  have hs := h.2.2.2.1
  obtain ⟨μ1, a1, a2, a3, a4, a5⟩ := lw_c h (wishA_c 1980 h.1 h.2.1 (sc (x + 2)) (sc (x + 3)) (sc (x + 4)) (sc (x + 5)))
  obtain ⟨μ2, b1, b2⟩ := lw_m (sc := sc) a2 a4 a5 (wishA_m 1928 h.1 a3 (sc (x + 2)) (sc (x + 3)) (sc (x + 4)) (sc (x + 5)))
  have a1 : RD cr2 2000 113 [0, (sc (x + 2)), (sc (x + 3)), (sc (x + 4)), (sc (x + 5))] μ = _ := a1
  have b1 : RD cr2 2000 210 [71, (sc (x + 2)), (sc (x + 3)), (sc (x + 4)), (sc (x + 5))] μ1 = _ := b1
  refine ⟨_, μ2, ?_, b2 (wishA_ok h.1 (sc (x + 2)) (sc (x + 3)) (sc (x + 4)) (sc (x + 5)))⟩
  rw [B268_16, ld1 hs s0 h3 hx, ld2 hs s0 h3 hx, ld3 hs s0 h3 hx, ld4 hs s0 h3 hx, a1, bnd_s, ld1 a4 s0 h3 hx, ld2 a4 s0 h3 hx, ld3 a4 s0 h3 hx, ld4 a4 s0 h3 hx, b1, bnd_s, if_pos rfl]
theorem op_17 {L : Nat} {sc : Nat → Int} {σ : St} {μ : amM} {x : Nat} (s0 : sc 0 = (L : Int)) (i5 : ∀ j, i32 (sc (j + 1))) (h3 : L ≤ 3072) (hx : x + 5 < L) (h : LI sc σ μ) : ∃ σ' μ', At cr2 2000 268 17 [] [302, 0, 71, (x : Int)] μ = At cr2 2000 268 44 [] [302, 0, 71, (x : Int)] μ' ∧ LI sc σ' μ' := by
  have hs := h.2.2.2.1
  obtain ⟨μ1, a1, a2, a3, a4, a5⟩ := lw_c h (steps_c 1980 h.1 h.2.1 (sc (x + 2)) (sc (x + 3)) (sc (x + 4)))
  obtain ⟨μ2, b1, b2⟩ := lw_m (sc := sc) a2 a4 a5 (steps_m 1980 h.1 a3 (sc (x + 2)) (sc (x + 3)) (sc (x + 4)))
  have a1 : RD cr2 2000 114 [0, (sc (x + 2)), (sc (x + 3)), (sc (x + 4))] μ = _ := a1
  have b1 : RD cr2 2000 217 [71, (sc (x + 2)), (sc (x + 3)), (sc (x + 4))] μ1 = _ := b1
  refine ⟨_, μ2, ?_, b2 (steps_ok h.1 (sc (x + 2)) (sc (x + 3)) (sc (x + 4)))⟩
  rw [B268_17, ld1 hs s0 h3 hx, ld2 hs s0 h3 hx, ld3 hs s0 h3 hx, a1, bnd_s, ld1 a4 s0 h3 hx, ld2 a4 s0 h3 hx, ld3 a4 s0 h3 hx, b1, bnd_s, if_pos rfl]
theorem op_18 {L : Nat} {sc : Nat → Int} {σ : St} {μ : amM} {x : Nat} (s0 : sc 0 = (L : Int)) (i5 : ∀ j, i32 (sc (j + 1))) (h3 : L ≤ 3072) (hx : x + 5 < L) (h : LI sc σ μ) : ∃ σ' μ', At cr2 2000 268 18 [] [302, 0, 71, (x : Int)] μ = At cr2 2000 268 44 [] [302, 0, 71, (x : Int)] μ' ∧ LI sc σ' μ' := by
  have hs := h.2.2.2.1
  obtain ⟨μ1, a1, a2, a3, a4, a5⟩ := lw_c h (right_c 1980 h.1 h.2.1)
  obtain ⟨μ2, b1, b2⟩ := lw_m (sc := sc) a2 a4 a5 (right_m 1929 h.1 a3)
  have a1 : RD cr2 2000 115 [0] μ = _ := a1
  have b1 : RD cr2 2000 211 [71] μ1 = _ := b1
  refine ⟨_, μ2, ?_, b2 (right_ok h.1)⟩
  rw [B268_18, a1, bnd_s, b1, bnd_s, if_pos rfl]
theorem op_19 {L : Nat} {sc : Nat → Int} {σ : St} {μ : amM} {x : Nat} (s0 : sc 0 = (L : Int)) (i5 : ∀ j, i32 (sc (j + 1))) (h3 : L ≤ 3072) (hx : x + 5 < L) (h : LI sc σ μ) : ∃ σ' μ', At cr2 2000 268 19 [] [302, 0, 71, (x : Int)] μ = At cr2 2000 268 44 [] [302, 0, 71, (x : Int)] μ' ∧ LI sc σ' μ' := by
  have hs := h.2.2.2.1
  obtain ⟨μ1, a1, a2, a3, a4, a5⟩ := lw_c h (rows_c 1980 h.2.1 (sc (x + 2)))
  obtain ⟨μ2, b1, b2⟩ := lw_m (sc := sc) a2 a4 a5 (rows_m 1980 h.1 a3 (sc (x + 2)))
  have a1 : RD cr2 2000 116 [0, (sc (x + 2))] μ = _ := a1
  have b1 : RD cr2 2000 221 [71, (sc (x + 2))] μ1 = _ := b1
  refine ⟨_, μ2, ?_, b2 (rows_ok h.1 (sc (x + 2)))⟩
  rw [B268_19, ld1 hs s0 h3 hx, a1, bnd_s, ld1 a4 s0 h3 hx, b1, bnd_s, lcm_s]
theorem op_20 {L : Nat} {sc : Nat → Int} {σ : St} {μ : amM} {x : Nat} (s0 : sc 0 = (L : Int)) (i5 : ∀ j, i32 (sc (j + 1))) (h3 : L ≤ 3072) (hx : x + 5 < L) (h : LI sc σ μ) : ∃ σ' μ', At cr2 2000 268 20 [] [302, 0, 71, (x : Int)] μ = At cr2 2000 268 44 [] [302, 0, 71, (x : Int)] μ' ∧ LI sc σ' μ' := by
  have hs := h.2.2.2.1
  obtain ⟨μ1, a1, a2, a3, a4, a5⟩ := lw_c h (rings_c 1980 h.1 h.2.1 (sc (x + 2)))
  obtain ⟨μ2, b1, b2⟩ := lw_m (sc := sc) a2 a4 a5 (rings_m 1980 h.1 a3 (sc (x + 2)))
  have a1 : RD cr2 2000 117 [0, (sc (x + 2))] μ = _ := a1
  have b1 : RD cr2 2000 222 [71, (sc (x + 2))] μ1 = _ := b1
  refine ⟨_, μ2, ?_, b2 (rings_ok h.1 (sc (x + 2)))⟩
  rw [B268_20, ld1 hs s0 h3 hx, a1, bnd_s, ld1 a4 s0 h3 hx, b1, bnd_s, lcm_s]
theorem op_21 {L : Nat} {sc : Nat → Int} {σ : St} {μ : amM} {x : Nat} (s0 : sc 0 = (L : Int)) (i5 : ∀ j, i32 (sc (j + 1))) (h3 : L ≤ 3072) (hx : x + 5 < L) (h : LI sc σ μ) : ∃ σ' μ', At cr2 2000 268 21 [] [302, 0, 71, (x : Int)] μ = At cr2 2000 268 44 [] [302, 0, 71, (x : Int)] μ' ∧ LI sc σ' μ' := by
  have hs := h.2.2.2.1
  obtain ⟨μ1, a1, a2, a3, a4, a5⟩ := lw_c h (before_c 1980 h.1 h.2.1)
  obtain ⟨μ2, b1, b2⟩ := lw_m (sc := sc) a2 a4 a5 (before_m 1980 h.1 a3)
  have a1 : RD cr2 2000 118 [0] μ = _ := a1
  have b1 : RD cr2 2000 226 [71] μ1 = _ := b1
  refine ⟨_, μ2, ?_, b2 (before_ok h.1)⟩
  rw [B268_21, a1, bnd_s, b1, bnd_s, lcm_s]
theorem op_22 {L : Nat} {sc : Nat → Int} {σ : St} {μ : amM} {x : Nat} (s0 : sc 0 = (L : Int)) (i5 : ∀ j, i32 (sc (j + 1))) (h3 : L ≤ 3072) (hx : x + 5 < L) (h : LI sc σ μ) : ∃ σ' μ', At cr2 2000 268 22 [] [302, 0, 71, (x : Int)] μ = At cr2 2000 268 44 [] [302, 0, 71, (x : Int)] μ' ∧ LI sc σ' μ' := by
  have hs := h.2.2.2.1
  obtain ⟨μ1, a1, a2, a3, a4, a5⟩ := lw_c h (drawn_c 1980 h.1 h.2.1 (sc (x + 2)))
  obtain ⟨μ2, b1, b2⟩ := lw_m (sc := sc) a2 a4 a5 (drawn_m 1980 h.1 a3 (sc (x + 2)))
  have a1 : RD cr2 2000 119 [0, (sc (x + 2))] μ = _ := a1
  have b1 : RD cr2 2000 253 [71, (sc (x + 2))] μ1 = _ := b1
  refine ⟨_, μ2, ?_, b2 (drawn_ok h.1 (sc (x + 2)))⟩
  rw [B268_22, ld1 hs s0 h3 hx, a1, bnd_s, ld1 a4 s0 h3 hx, b1, bnd_s, if_pos rfl]
theorem op_23 {L : Nat} {sc : Nat → Int} {σ : St} {μ : amM} {x : Nat} (s0 : sc 0 = (L : Int)) (i5 : ∀ j, i32 (sc (j + 1))) (h3 : L ≤ 3072) (hx : x + 5 < L) (h : LI sc σ μ) : ∃ σ' μ', At cr2 2000 268 23 [] [302, 0, 71, (x : Int)] μ = At cr2 2000 268 44 [] [302, 0, 71, (x : Int)] μ' ∧ LI sc σ' μ' := by
  have hs := h.2.2.2.1
  obtain ⟨μ1, a1, a2, a3, a4, a5⟩ := lw_c h (storm_c 1980 h.1 h.2.1 (sc (x + 2)) (sc (x + 3)))
  obtain ⟨μ2, b1, b2⟩ := lw_m (sc := sc) a2 a4 a5 (storm_m 1980 h.1 a3 (sc (x + 2)) (sc (x + 3)))
  have a1 : RD cr2 2000 120 [0, (sc (x + 2)), (sc (x + 3))] μ = _ := a1
  have b1 : RD cr2 2000 231 [71, (sc (x + 2)), (sc (x + 3))] μ1 = _ := b1
  refine ⟨_, μ2, ?_, b2 (storm_ok h.1 (sc (x + 2)) (sc (x + 3)))⟩
  rw [B268_23, ld1 hs s0 h3 hx, ld2 hs s0 h3 hx, a1, bnd_s, ld1 a4 s0 h3 hx, ld2 a4 s0 h3 hx, b1, bnd_s, if_pos rfl]
theorem op_24 {L : Nat} {sc : Nat → Int} {σ : St} {μ : amM} {x : Nat} (s0 : sc 0 = (L : Int)) (i5 : ∀ j, i32 (sc (j + 1))) (h3 : L ≤ 3072) (hx : x + 5 < L) (h : LI sc σ μ) : ∃ σ' μ', At cr2 2000 268 24 [] [302, 0, 71, (x : Int)] μ = At cr2 2000 268 44 [] [302, 0, 71, (x : Int)] μ' ∧ LI sc σ' μ' := by
  have hs := h.2.2.2.1
  obtain ⟨μ1, a1, a2, a3, a4, a5⟩ := lw_c h (harm_c 1980 h.1 h.2.1 (sc (x + 2)) (sc (x + 3)))
  obtain ⟨μ2, b1, b2⟩ := lw_m (sc := sc) a2 a4 a5 (harm_m 1980 h.1 a3 (sc (x + 2)) (sc (x + 3)))
  have a1 : RD cr2 2000 121 [0, (sc (x + 2)), (sc (x + 3))] μ = _ := a1
  have b1 : RD cr2 2000 233 [71, (sc (x + 2)), (sc (x + 3))] μ1 = _ := b1
  refine ⟨_, μ2, ?_, b2 (harm_ok h.1 (sc (x + 2)) (sc (x + 3)))⟩
  rw [B268_24, ld1 hs s0 h3 hx, ld2 hs s0 h3 hx, a1, bnd_s, ld1 a4 s0 h3 hx, ld2 a4 s0 h3 hx, b1, bnd_s, if_pos rfl]
theorem op_25 {L : Nat} {sc : Nat → Int} {σ : St} {μ : amM} {x : Nat} (s0 : sc 0 = (L : Int)) (i5 : ∀ j, i32 (sc (j + 1))) (h3 : L ≤ 3072) (hx : x + 5 < L) (h : LI sc σ μ) : ∃ σ' μ', At cr2 2000 268 25 [] [302, 0, 71, (x : Int)] μ = At cr2 2000 268 44 [] [302, 0, 71, (x : Int)] μ' ∧ LI sc σ' μ' := by
  have hs := h.2.2.2.1
  obtain ⟨μ1, a1, a2, a3, a4, a5⟩ := lw_c h (worst_c 1980 h.1 h.2.1)
  obtain ⟨μ2, b1, b2⟩ := lw_m (sc := sc) a2 a4 a5 (worst_m 1980 h.1 a3)
  have a1 : RD cr2 2000 122 [0] μ = _ := a1
  have b1 : RD cr2 2000 234 [71] μ1 = _ := b1
  refine ⟨_, μ2, ?_, b2 h.1⟩
  rw [B268_25, a1, bnd_s, b1, bnd_s, if_pos rfl]
theorem op_26 {L : Nat} {sc : Nat → Int} {σ : St} {μ : amM} {x : Nat} (s0 : sc 0 = (L : Int)) (i5 : ∀ j, i32 (sc (j + 1))) (h3 : L ≤ 3072) (hx : x + 5 < L) (h : LI sc σ μ) : ∃ σ' μ', At cr2 2000 268 26 [] [302, 0, 71, (x : Int)] μ = At cr2 2000 268 44 [] [302, 0, 71, (x : Int)] μ' ∧ LI sc σ' μ' := by
  have hs := h.2.2.2.1
  obtain ⟨μ1, a1, a2, a3, a4, a5⟩ := lw_c h (fill_c 1980 h.1 h.2.1)
  obtain ⟨μ2, b1, b2⟩ := lw_m (sc := sc) a2 a4 a5 (fill_m 1980 h.1 a3)
  have a1 : RD cr2 2000 123 [0] μ = _ := a1
  have b1 : RD cr2 2000 235 [71] μ1 = _ := b1
  refine ⟨_, μ2, ?_, b2 (fill_ok h.1)⟩
  rw [B268_26, a1, bnd_s, b1, bnd_s, if_pos rfl]
theorem op_27 {L : Nat} {sc : Nat → Int} {σ : St} {μ : amM} {x : Nat} (s0 : sc 0 = (L : Int)) (i5 : ∀ j, i32 (sc (j + 1))) (h3 : L ≤ 3072) (hx : x + 5 < L) (h : LI sc σ μ) : ∃ σ' μ', At cr2 2000 268 27 [] [302, 0, 71, (x : Int)] μ = At cr2 2000 268 44 [] [302, 0, 71, (x : Int)] μ' ∧ LI sc σ' μ' := by
  have hs := h.2.2.2.1
  obtain ⟨μ1, a1, a2, a3, a4, a5⟩ := lw_c h (worth_c 1980 h.1 h.2.1)
  obtain ⟨μ2, b1, b2⟩ := lw_m (sc := sc) a2 a4 a5 (worth_m 1930 h.1 a3)
  have a1 : RD cr2 2000 124 [0] μ = _ := a1
  have b1 : RD cr2 2000 236 [71] μ1 = _ := b1
  refine ⟨_, μ2, ?_, b2 h.1⟩
  rw [B268_27, a1, bnd_s, b1, bnd_s, if_pos rfl]
theorem op_28 {L : Nat} {sc : Nat → Int} {σ : St} {μ : amM} {x : Nat} (s0 : sc 0 = (L : Int)) (i5 : ∀ j, i32 (sc (j + 1))) (h3 : L ≤ 3072) (hx : x + 5 < L) (h : LI sc σ μ) : ∃ σ' μ', At cr2 2000 268 28 [] [302, 0, 71, (x : Int)] μ = At cr2 2000 268 44 [] [302, 0, 71, (x : Int)] μ' ∧ LI sc σ' μ' := by
  have hs := h.2.2.2.1
  obtain ⟨μ1, a1, a2, a3, a4, a5⟩ := lw_c h (pays_c 1980 h.1 h.2.1 (sc (x + 2)))
  obtain ⟨μ2, b1, b2⟩ := lw_m (sc := sc) a2 a4 a5 (pays_m 1920 h.1 a3 (sc (x + 2)))
  have a1 : RD cr2 2000 125 [0, (sc (x + 2))] μ = _ := a1
  have b1 : RD cr2 2000 237 [71, (sc (x + 2))] μ1 = _ := b1
  refine ⟨_, μ2, ?_, b2 (pays_ok h.1 (sc (x + 2)))⟩
  rw [B268_28, ld1 hs s0 h3 hx, a1, bnd_s, ld1 a4 s0 h3 hx, b1, bnd_s, if_pos rfl]
theorem op_29 {L : Nat} {sc : Nat → Int} {σ : St} {μ : amM} {x : Nat} (s0 : sc 0 = (L : Int)) (i5 : ∀ j, i32 (sc (j + 1))) (h3 : L ≤ 3072) (hx : x + 5 < L) (h : LI sc σ μ) : ∃ σ' μ', At cr2 2000 268 29 [] [302, 0, 71, (x : Int)] μ = At cr2 2000 268 44 [] [302, 0, 71, (x : Int)] μ' ∧ LI sc σ' μ' := by
  have hs := h.2.2.2.1
  obtain ⟨μ1, a1, a2, a3, a4, a5⟩ := lw_c h (years_c 1980 h.1 h.2.1 (sc (x + 2)))
  obtain ⟨μ2, b1, b2⟩ := lw_m (sc := sc) a2 a4 a5 (years_m 1920 h.1 a3 (sc (x + 2)))
  have a1 : RD cr2 2000 126 [0, (sc (x + 2))] μ = _ := a1
  have b1 : RD cr2 2000 239 [71, (sc (x + 2))] μ1 = _ := b1
  refine ⟨_, μ2, ?_, b2 (years_ok h.1 (sc (x + 2)))⟩
  rw [B268_29, ld1 hs s0 h3 hx, a1, bnd_s, ld1 a4 s0 h3 hx, b1, bnd_s, if_pos rfl]
theorem op_30 {L : Nat} {sc : Nat → Int} {σ : St} {μ : amM} {x : Nat} (s0 : sc 0 = (L : Int)) (i5 : ∀ j, i32 (sc (j + 1))) (h3 : L ≤ 3072) (hx : x + 5 < L) (h : LI sc σ μ) : ∃ σ' μ', At cr2 2000 268 30 [] [302, 0, 71, (x : Int)] μ = At cr2 2000 268 44 [] [302, 0, 71, (x : Int)] μ' ∧ LI sc σ' μ' := by
  have hs := h.2.2.2.1
  obtain ⟨μ1, a1, a2, a3, a4, a5⟩ := lw_c h (seed_c 1980 h.2.1 (sc (x + 2)))
  obtain ⟨μ2, b1, b2⟩ := lw_m (sc := sc) a2 a4 a5 (seed_m 1980 h.1 a3 (sc (x + 2)))
  have a1 : RD cr2 2000 127 [0, (sc (x + 2))] μ = _ := a1
  have b1 : RD cr2 2000 240 [71, (sc (x + 2))] μ1 = _ := b1
  refine ⟨_, μ2, ?_, b2 (seed_ok h.1 (i5 _))⟩
  rw [B268_30, ld1 hs s0 h3 hx, a1, bnd_s, ld1 a4 s0 h3 hx, b1, bnd_s, if_pos rfl]
theorem op_31 {L : Nat} {sc : Nat → Int} {σ : St} {μ : amM} {x : Nat} (s0 : sc 0 = (L : Int)) (i5 : ∀ j, i32 (sc (j + 1))) (h3 : L ≤ 3072) (hx : x + 5 < L) (h : LI sc σ μ) : ∃ σ' μ', At cr2 2000 268 31 [] [302, 0, 71, (x : Int)] μ = At cr2 2000 268 44 [] [302, 0, 71, (x : Int)] μ' ∧ LI sc σ' μ' := by
  have hs := h.2.2.2.1
  obtain ⟨μ1, a1, a2, a3, a4, a5⟩ := lw_c h (voice_c 1980 h.1 h.2.1 (sc (x + 2)) (sc (x + 3)) (sc (x + 4)))
  obtain ⟨μ2, b1, b2⟩ := lw_m (sc := sc) a2 a4 a5 (voice_m 1980 h.1 a3 (sc (x + 2)) (sc (x + 3)) (sc (x + 4)))
  have a1 : RD cr2 2000 128 [0, (sc (x + 2)), (sc (x + 3)), (sc (x + 4))] μ = _ := a1
  have b1 : RD cr2 2000 247 [71, (sc (x + 2)), (sc (x + 3)), (sc (x + 4))] μ1 = _ := b1
  refine ⟨_, μ2, ?_, b2 (voice_ok h.1 (sc (x + 2)) (sc (x + 3)) (sc (x + 4)))⟩
  rw [B268_31, ld1 hs s0 h3 hx, ld2 hs s0 h3 hx, ld3 hs s0 h3 hx, a1, bnd_s, ld1 a4 s0 h3 hx, ld2 a4 s0 h3 hx, ld3 a4 s0 h3 hx, b1, bnd_s, if_pos rfl]
theorem op_32 {L : Nat} {sc : Nat → Int} {σ : St} {μ : amM} {x : Nat} (s0 : sc 0 = (L : Int)) (i5 : ∀ j, i32 (sc (j + 1))) (h3 : L ≤ 3072) (hx : x + 5 < L) (h : LI sc σ μ) : ∃ σ' μ', At cr2 2000 268 32 [] [302, 0, 71, (x : Int)] μ = At cr2 2000 268 44 [] [302, 0, 71, (x : Int)] μ' ∧ LI sc σ' μ' := by
  have hs := h.2.2.2.1
  obtain ⟨μ1, a1, a2, a3, a4, a5⟩ := lw_c h (trace_c 1980 h.1 h.2.1 (sc (x + 2)))
  obtain ⟨μ2, b1, b2⟩ := lw_m (sc := sc) a2 a4 a5 (trace_m 1980 h.1 a3 (sc (x + 2)))
  have a1 : RD cr2 2000 129 [0, (sc (x + 2))] μ = _ := a1
  have b1 : RD cr2 2000 248 [71, (sc (x + 2))] μ1 = _ := b1
  refine ⟨_, μ2, ?_, b2 (trace_ok h.1 (sc (x + 2)))⟩
  rw [B268_32, ld1 hs s0 h3 hx, a1, bnd_s, ld1 a4 s0 h3 hx, b1, bnd_s, if_pos rfl]
theorem op_33 {L : Nat} {sc : Nat → Int} {σ : St} {μ : amM} {x : Nat} (s0 : sc 0 = (L : Int)) (i5 : ∀ j, i32 (sc (j + 1))) (h3 : L ≤ 3072) (hx : x + 5 < L) (h : LI sc σ μ) : ∃ σ' μ', At cr2 2000 268 33 [] [302, 0, 71, (x : Int)] μ = At cr2 2000 268 44 [] [302, 0, 71, (x : Int)] μ' ∧ LI sc σ' μ' := by
  have hs := h.2.2.2.1
  obtain ⟨μ1, a1, a2, a3, a4, a5⟩ := lw_c h (sheet_c 1980 h.2.1 (sc (x + 2)) (sc (x + 3)) (sc (x + 4)))
  obtain ⟨μ2, b1, b2⟩ := lw_m (sc := sc) a2 a4 a5 (sheet_m 1980 h.1 a3 (sc (x + 2)) (sc (x + 3)) (sc (x + 4)))
  have a1 : RD cr2 2000 130 [0, (sc (x + 2)), (sc (x + 3)), (sc (x + 4))] μ = _ := a1
  have b1 : RD cr2 2000 250 [71, (sc (x + 2)), (sc (x + 3)), (sc (x + 4))] μ1 = _ := b1
  refine ⟨_, μ2, ?_, b2 (sheet_ok h.1 (sc (x + 2)) (sc (x + 3)) (sc (x + 4)))⟩
  rw [B268_33, ld1 hs s0 h3 hx, ld2 hs s0 h3 hx, ld3 hs s0 h3 hx, a1, bnd_s, ld1 a4 s0 h3 hx, ld2 a4 s0 h3 hx, ld3 a4 s0 h3 hx, b1, bnd_s, if_pos rfl]
theorem op_34 {L : Nat} {sc : Nat → Int} {σ : St} {μ : amM} {x : Nat} (s0 : sc 0 = (L : Int)) (i5 : ∀ j, i32 (sc (j + 1))) (h3 : L ≤ 3072) (hx : x + 5 < L) (h : LI sc σ μ) : ∃ σ' μ', At cr2 2000 268 34 [] [302, 0, 71, (x : Int)] μ = At cr2 2000 268 44 [] [302, 0, 71, (x : Int)] μ' ∧ LI sc σ' μ' := by
  have hs := h.2.2.2.1
  obtain ⟨μ1, a1, a2, a3, a4, a5⟩ := lw_c h (put_c 1980 h.1 h.2.1 (sc (x + 2)) (sc (x + 3)) (i5 _))
  obtain ⟨μ2, b1, b2⟩ := lw_m (sc := sc) a2 a4 a5 (put_m 1980 h.1 a3 (sc (x + 2)) (sc (x + 3)) (sc (x + 4)))
  have a1 : RD cr2 2000 131 [0, (sc (x + 2)), (sc (x + 3)), (sc (x + 4))] μ = _ := a1
  have b1 : RD cr2 2000 251 [71, (sc (x + 2)), (sc (x + 3)), (sc (x + 4))] μ1 = _ := b1
  refine ⟨_, μ2, ?_, b2 (put_ok h.1 (sc (x + 2)) (sc (x + 3)) (sc (x + 4)))⟩
  rw [B268_34, ld1 hs s0 h3 hx, ld2 hs s0 h3 hx, ld3 hs s0 h3 hx, a1, bnd_s, ld1 a4 s0 h3 hx, ld2 a4 s0 h3 hx, ld3 a4 s0 h3 hx, b1, bnd_s, if_pos rfl]
theorem op_35 {L : Nat} {sc : Nat → Int} {σ : St} {μ : amM} {x : Nat} (s0 : sc 0 = (L : Int)) (i5 : ∀ j, i32 (sc (j + 1))) (h3 : L ≤ 3072) (hx : x + 5 < L) (h : LI sc σ μ) : ∃ σ' μ', At cr2 2000 268 35 [] [302, 0, 71, (x : Int)] μ = At cr2 2000 268 44 [] [302, 0, 71, (x : Int)] μ' ∧ LI sc σ' μ' := by
  have hs := h.2.2.2.1
  obtain ⟨μ1, a1, a2, a3, a4, a5⟩ := lw_c h (move_c 1980 h.1 h.2.1 (sc (x + 2)) (sc (x + 3)) (sc (x + 4)) (sc (x + 5)) (i5 _))
  obtain ⟨μ2, b1, b2⟩ := lw_m (sc := sc) a2 a4 a5 (move_m 1980 h.1 a3 (sc (x + 2)) (sc (x + 4)) (i5 _) (i5 _) (i5 _))
  have a1 : RD cr2 2000 132 [0, (sc (x + 2)), (sc (x + 3)), (sc (x + 4)), (sc (x + 5)), (sc (x + 6))] μ = _ := a1
  have b1 : RD cr2 2000 252 [71, (sc (x + 2)), (sc (x + 3)), (sc (x + 4)), (sc (x + 5)), (sc (x + 6))] μ1 = _ := b1
  refine ⟨_, μ2, ?_, b2 (move_ok h.1 (sc (x + 2)) (sc (x + 3)) (sc (x + 4)) (sc (x + 5)) (sc (x + 6)))⟩
  rw [B268_35, ld1 hs s0 h3 hx, ld2 hs s0 h3 hx, ld3 hs s0 h3 hx, ld4 hs s0 h3 hx, ld5 hs s0 h3 hx, a1, bnd_s, ld1 a4 s0 h3 hx, ld2 a4 s0 h3 hx, ld3 a4 s0 h3 hx, ld4 a4 s0 h3 hx, ld5 a4 s0 h3 hx, b1, bnd_s, if_pos rfl]
theorem op_36 {L : Nat} {sc : Nat → Int} {σ : St} {μ : amM} {x : Nat} (s0 : sc 0 = (L : Int)) (i5 : ∀ j, i32 (sc (j + 1))) (h3 : L ≤ 3072) (hx : x + 5 < L) (h : LI sc σ μ) : ∃ σ' μ', At cr2 2000 268 36 [] [302, 0, 71, (x : Int)] μ = At cr2 2000 268 44 [] [302, 0, 71, (x : Int)] μ' ∧ LI sc σ' μ' := by
  have hs := h.2.2.2.1
  obtain ⟨μ1, a1, a2, a3, a4, a5⟩ := lw_c h (builds_c 1980 h.1 h.2.1 (sc (x + 2)))
  obtain ⟨μ2, b1, b2⟩ := lw_m (sc := sc) a2 a4 a5 (builds_m 1980 h.1 a3 (sc (x + 2)))
  have a1 : RD cr2 2000 133 [0, (sc (x + 2))] μ = _ := a1
  have b1 : RD cr2 2000 256 [71, (sc (x + 2))] μ1 = _ := b1
  refine ⟨_, μ2, ?_, b2 (builds_ok h.1 (sc (x + 2)))⟩
  rw [B268_36, ld1 hs s0 h3 hx, a1, bnd_s, ld1 a4 s0 h3 hx, b1, bnd_s, if_pos rfl]
theorem op_37 {L : Nat} {sc : Nat → Int} {σ : St} {μ : amM} {x : Nat} (s0 : sc 0 = (L : Int)) (i5 : ∀ j, i32 (sc (j + 1))) (h3 : L ≤ 3072) (hx : x + 5 < L) (h : LI sc σ μ) : ∃ σ' μ', At cr2 2000 268 37 [] [302, 0, 71, (x : Int)] μ = At cr2 2000 268 44 [] [302, 0, 71, (x : Int)] μ' ∧ LI sc σ' μ' := by
  have hs := h.2.2.2.1
  obtain ⟨μ1, a1, a2, a3, a4, a5⟩ := lw_c h (judge_c 1980 h.1 h.2.1 (sc (x + 2)))
  obtain ⟨μ2, b1, b2⟩ := lw_m (sc := sc) a2 a4 a5 (judge_m 1980 h.1 a3 (sc (x + 2)))
  have a1 : RD cr2 2000 134 [0, (sc (x + 2))] μ = _ := a1
  have b1 : RD cr2 2000 258 [71, (sc (x + 2))] μ1 = _ := b1
  refine ⟨_, μ2, ?_, b2 (judge_ok h.1 (sc (x + 2)))⟩
  rw [B268_37, ld1 hs s0 h3 hx, a1, bnd_s, ld1 a4 s0 h3 hx, b1, bnd_s, if_pos rfl]
theorem op_38 {L : Nat} {sc : Nat → Int} {σ : St} {μ : amM} {x : Nat} (s0 : sc 0 = (L : Int)) (i5 : ∀ j, i32 (sc (j + 1))) (h3 : L ≤ 3072) (hx : x + 5 < L) (h : LI sc σ μ) : ∃ σ' μ', At cr2 2000 268 38 [] [302, 0, 71, (x : Int)] μ = At cr2 2000 268 44 [] [302, 0, 71, (x : Int)] μ' ∧ LI sc σ' μ' := by
  have hs := h.2.2.2.1
  obtain ⟨μ1, a1, a2, a3, a4, a5⟩ := lw_c h (image_c 1980 h.1 h.2.1)
  obtain ⟨μ2, b1, b2⟩ := lw_m (sc := sc) a2 a4 a5 (image_m 1980 h.1 a3)
  have a1 : RD cr2 2000 135 [0] μ = _ := a1
  have b1 : RD cr2 2000 259 [71] μ1 = _ := b1
  refine ⟨_, μ2, ?_, b2 (image_ok h.1)⟩
  rw [B268_38, a1, bnd_s, b1, bnd_s, if_pos rfl]
theorem op_39 {L : Nat} {sc : Nat → Int} {σ : St} {μ : amM} {x : Nat} (s0 : sc 0 = (L : Int)) (i5 : ∀ j, i32 (sc (j + 1))) (h3 : L ≤ 3072) (hx : x + 5 < L) (h : LI sc σ μ) : ∃ σ' μ', At cr2 2000 268 39 [] [302, 0, 71, (x : Int)] μ = At cr2 2000 268 44 [] [302, 0, 71, (x : Int)] μ' ∧ LI sc σ' μ' := by
  have hs := h.2.2.2.1
  obtain ⟨μ1, a1, a2, a3, a4, a5⟩ := lw_c h (restore_c 1980 h.1 h.2.1)
  obtain ⟨μ2, b1, b2⟩ := lw_m (sc := sc) a2 a4 a5 (restore_m 1980 h.1 a3)
  have a1 : RD cr2 2000 136 [0] μ = _ := a1
  have b1 : RD cr2 2000 260 [71] μ1 = _ := b1
  refine ⟨_, μ2, ?_, b2 (restore_ok h.1)⟩
  rw [B268_39, a1, bnd_s, b1, bnd_s, if_pos rfl]
theorem op_40 {L : Nat} {sc : Nat → Int} {σ : St} {μ : amM} {x : Nat} (s0 : sc 0 = (L : Int)) (i5 : ∀ j, i32 (sc (j + 1))) (h3 : L ≤ 3072) (hx : x + 5 < L) (h : LI sc σ μ) : ∃ σ' μ', At cr2 2000 268 40 [] [302, 0, 71, (x : Int)] μ = At cr2 2000 268 44 [] [302, 0, 71, (x : Int)] μ' ∧ LI sc σ' μ' := by
  have hs := h.2.2.2.1
  obtain ⟨μ1, a1, a2, a3, a4, a5⟩ := lw_c h (tell_c 1980 h.1 h.2.1 (sc (x + 2)))
  obtain ⟨μ2, b1, b2⟩ := lw_m (sc := sc) a2 a4 a5 (tell_m 1980 h.1 a3 (sc (x + 2)))
  have a1 : RD cr2 2000 137 [0, (sc (x + 2))] μ = _ := a1
  have b1 : RD cr2 2000 261 [71, (sc (x + 2))] μ1 = _ := b1
  refine ⟨_, μ2, ?_, b2 (tell_ok h.1 (sc (x + 2)))⟩
  rw [B268_40, ld1 hs s0 h3 hx, a1, bnd_s, ld1 a4 s0 h3 hx, b1, bnd_s, if_pos rfl]
theorem op_41 {L : Nat} {sc : Nat → Int} {σ : St} {μ : amM} {x : Nat} (s0 : sc 0 = (L : Int)) (i5 : ∀ j, i32 (sc (j + 1))) (h3 : L ≤ 3072) (hx : x + 5 < L) (h : LI sc σ μ) : ∃ σ' μ', At cr2 2000 268 41 [] [302, 0, 71, (x : Int)] μ = At cr2 2000 268 44 [] [302, 0, 71, (x : Int)] μ' ∧ LI sc σ' μ' := by
  have hs := h.2.2.2.1
  obtain ⟨μ1, a1, a2, a3, a4, a5⟩ := lw_c h (check_c 1980 h.1 h.2.1)
  obtain ⟨μ2, b1, b2⟩ := lw_m (sc := sc) a2 a4 a5 (check_m 1980 h.1 a3)
  have a1 : RD cr2 2000 138 [0] μ = _ := a1
  have b1 : RD cr2 2000 262 [71] μ1 = _ := b1
  refine ⟨_, μ2, ?_, b2 (check_ok h.1)⟩
  rw [B268_41, a1, bnd_s, b1, bnd_s, if_pos rfl]
theorem op_42 {L : Nat} {sc : Nat → Int} {σ : St} {μ : amM} {x : Nat} (s0 : sc 0 = (L : Int)) (i5 : ∀ j, i32 (sc (j + 1))) (h3 : L ≤ 3072) (hx : x + 5 < L) (h : LI sc σ μ) : ∃ σ' μ', At cr2 2000 268 42 [] [302, 0, 71, (x : Int)] μ = At cr2 2000 268 44 [] [302, 0, 71, (x : Int)] μ' ∧ LI sc σ' μ' := by
  have hs := h.2.2.2.1
  obtain ⟨μ1, a1, a2, a3, a4, a5⟩ := lw_c h (count_c 1980 h.1 h.2.1 (sc (x + 2)))
  obtain ⟨μ2, b1, b2⟩ := lw_m (sc := sc) a2 a4 a5 (count_m 1980 h.1 a3 (sc (x + 2)))
  have a1 : RD cr2 2000 139 [0, (sc (x + 2))] μ = _ := a1
  have b1 : RD cr2 2000 263 [71, (sc (x + 2))] μ1 = _ := b1
  refine ⟨_, μ2, ?_, b2 (count_ok h.1 (sc (x + 2)))⟩
  rw [B268_42, ld1 hs s0 h3 hx, a1, bnd_s, ld1 a4 s0 h3 hx, b1, bnd_s, if_pos rfl]
theorem op_43 {L : Nat} {sc : Nat → Int} {σ : St} {μ : amM} {x : Nat} (s0 : sc 0 = (L : Int)) (i5 : ∀ j, i32 (sc (j + 1))) (h3 : L ≤ 3072) (hx : x + 5 < L) (h : LI sc σ μ) : ∃ σ' μ', At cr2 2000 268 43 [] [302, 0, 71, (x : Int)] μ = At cr2 2000 268 44 [] [302, 0, 71, (x : Int)] μ' ∧ LI sc σ' μ' := by
  have hs := h.2.2.2.1
  obtain ⟨μ1, a1, a2, a3, a4, a5⟩ := lw_c h (told_c 1980 h.2.1 (sc (x + 2)))
  obtain ⟨μ2, b1, b2⟩ := lw_m (sc := sc) a2 a4 a5 (told_m 1980 h.1 a3 (sc (x + 2)))
  have a1 : RD cr2 2000 140 [0, (sc (x + 2))] μ = _ := a1
  have b1 : RD cr2 2000 264 [71, (sc (x + 2))] μ1 = _ := b1
  refine ⟨_, μ2, ?_, b2 (told_ok h.1 (sc (x + 2)))⟩
  rw [B268_43, ld1 hs s0 h3 hx, a1, bnd_s, ld1 a4 s0 h3 hx, b1, bnd_s, if_pos rfl]
theorem lw_1 {L : Nat} {sc : Nat → Int} {σ : St} {μ : amM} {x : Nat} (s0 : sc 0 = (L : Int)) (i5 : ∀ j, i32 (sc (j + 1))) (h3 : L ≤ 3072) (hx : x + 5 < L) (h : LI sc σ μ) : ∃ σ' μ', At cr2 2000 268 1 [] [302, 0, 71, (x : Int)] μ = At cr2 2000 268 44 [] [302, 0, 71, (x : Int)] μ' ∧ LI sc σ' μ' := by
  have hs := h.2.2.2.1
  have e0 : μ 302 0 = (L : Int) := (hs 0).trans s0
  have l0 : ∀ {f : Int → amR}, amAld μ 302 (x : Int) f = f (sc (x + 1)) := fun {f} => by
    unfold amAld
    rw [if_neg (by decide), if_neg (by decide), if_pos (by decide), e0, if_pos ⟨geI _, by omega⟩, Int.toNat_natCast, hs]
  rw [B268_1, e0, w32_i (by omega) (by omega), if_neg (by omega), l0]
  generalize bAnd (sc (x + 1)) 63 = v
  by_cases q0 : v = 0
  · rw [if_pos q0]
    exact op_2 s0 i5 h3 hx h
  rw [if_neg q0]
  by_cases q1 : v = 1
  · rw [if_pos q1]
    exact op_3 s0 i5 h3 hx h
  rw [if_neg q1]
  by_cases q2 : v = 2
  · rw [if_pos q2]
    exact op_4 s0 i5 h3 hx h
  rw [if_neg q2]
  by_cases q3 : v = 3
  · rw [if_pos q3]
    exact op_5 s0 i5 h3 hx h
  rw [if_neg q3]
  by_cases q4 : v = 4
  · rw [if_pos q4]
    exact op_6 s0 i5 h3 hx h
  rw [if_neg q4]
  by_cases q5 : v = 5
  · rw [if_pos q5]
    exact op_7 s0 i5 h3 hx h
  rw [if_neg q5]
  by_cases q6 : v = 6
  · rw [if_pos q6]
    exact op_8 s0 i5 h3 hx h
  rw [if_neg q6]
  by_cases q7 : v = 7
  · rw [if_pos q7]
    exact op_9 s0 i5 h3 hx h
  rw [if_neg q7]
  by_cases q8 : v = 8
  · rw [if_pos q8]
    exact op_10 s0 i5 h3 hx h
  rw [if_neg q8]
  by_cases q9 : v = 9
  · rw [if_pos q9]
    exact op_11 s0 i5 h3 hx h
  rw [if_neg q9]
  by_cases q10 : v = 10
  · rw [if_pos q10]
    exact op_12 s0 i5 h3 hx h
  rw [if_neg q10]
  by_cases q11 : v = 11
  · rw [if_pos q11]
    exact op_13 s0 i5 h3 hx h
  rw [if_neg q11]
  by_cases q12 : v = 12
  · rw [if_pos q12]
    exact op_14 s0 i5 h3 hx h
  rw [if_neg q12]
  by_cases q13 : v = 13
  · rw [if_pos q13]
    exact op_15 s0 i5 h3 hx h
  rw [if_neg q13]
  by_cases q14 : v = 14
  · rw [if_pos q14]
    exact op_16 s0 i5 h3 hx h
  rw [if_neg q14]
  by_cases q15 : v = 15
  · rw [if_pos q15]
    exact op_17 s0 i5 h3 hx h
  rw [if_neg q15]
  by_cases q16 : v = 16
  · rw [if_pos q16]
    exact op_18 s0 i5 h3 hx h
  rw [if_neg q16]
  by_cases q17 : v = 17
  · rw [if_pos q17]
    exact op_19 s0 i5 h3 hx h
  rw [if_neg q17]
  by_cases q18 : v = 18
  · rw [if_pos q18]
    exact op_20 s0 i5 h3 hx h
  rw [if_neg q18]
  by_cases q19 : v = 19
  · rw [if_pos q19]
    exact op_21 s0 i5 h3 hx h
  rw [if_neg q19]
  by_cases q20 : v = 20
  · rw [if_pos q20]
    exact op_22 s0 i5 h3 hx h
  rw [if_neg q20]
  by_cases q21 : v = 21
  · rw [if_pos q21]
    exact op_23 s0 i5 h3 hx h
  rw [if_neg q21]
  by_cases q22 : v = 22
  · rw [if_pos q22]
    exact op_24 s0 i5 h3 hx h
  rw [if_neg q22]
  by_cases q23 : v = 23
  · rw [if_pos q23]
    exact op_25 s0 i5 h3 hx h
  rw [if_neg q23]
  by_cases q24 : v = 24
  · rw [if_pos q24]
    exact op_26 s0 i5 h3 hx h
  rw [if_neg q24]
  by_cases q25 : v = 25
  · rw [if_pos q25]
    exact op_27 s0 i5 h3 hx h
  rw [if_neg q25]
  by_cases q26 : v = 26
  · rw [if_pos q26]
    exact op_28 s0 i5 h3 hx h
  rw [if_neg q26]
  by_cases q27 : v = 27
  · rw [if_pos q27]
    exact op_29 s0 i5 h3 hx h
  rw [if_neg q27]
  by_cases q28 : v = 28
  · rw [if_pos q28]
    exact op_30 s0 i5 h3 hx h
  rw [if_neg q28]
  by_cases q29 : v = 29
  · rw [if_pos q29]
    exact op_31 s0 i5 h3 hx h
  rw [if_neg q29]
  by_cases q30 : v = 30
  · rw [if_pos q30]
    exact op_32 s0 i5 h3 hx h
  rw [if_neg q30]
  by_cases q31 : v = 31
  · rw [if_pos q31]
    exact op_33 s0 i5 h3 hx h
  rw [if_neg q31]
  by_cases q32 : v = 32
  · rw [if_pos q32]
    exact op_34 s0 i5 h3 hx h
  rw [if_neg q32]
  by_cases q33 : v = 33
  · rw [if_pos q33]
    exact op_35 s0 i5 h3 hx h
  rw [if_neg q33]
  by_cases q34 : v = 34
  · rw [if_pos q34]
    exact op_36 s0 i5 h3 hx h
  rw [if_neg q34]
  by_cases q35 : v = 35
  · rw [if_pos q35]
    exact op_37 s0 i5 h3 hx h
  rw [if_neg q35]
  by_cases q36 : v = 36
  · rw [if_pos q36]
    exact op_38 s0 i5 h3 hx h
  rw [if_neg q36]
  by_cases q37 : v = 37
  · rw [if_pos q37]
    exact op_39 s0 i5 h3 hx h
  rw [if_neg q37]
  by_cases q38 : v = 38
  · rw [if_pos q38]
    exact op_40 s0 i5 h3 hx h
  rw [if_neg q38]
  by_cases q39 : v = 39
  · rw [if_pos q39]
    exact op_41 s0 i5 h3 hx h
  rw [if_neg q39]
  by_cases q40 : v = 40
  · rw [if_pos q40]
    exact op_42 s0 i5 h3 hx h
  rw [if_neg q40]
  by_cases q41 : v = 41
  · rw [if_pos q41]
    exact op_43 s0 i5 h3 hx h
  rw [if_neg q41]
  exact ⟨σ, μ, rfl, h⟩
theorem lw_l {L : Nat} {sc : Nat → Int} (s0 : sc 0 = (L : Int)) (i5 : ∀ j, i32 (sc (j + 1))) (h3 : L ≤ 3072) : ∀ (n x : Nat) (σ : St) (μ : amM), L ≤ x + 6 * n + 5 → x ≤ L → LI sc σ μ → ∃ μ', At cr2 2000 268 1 [] [302, 0, 71, (x : Int)] μ = some (1, μ') ∧ μ' 999 0 = 95 := by
  have stop : ∀ (x : Nat) (σ : St) (μ : amM), L ≤ x + 5 → LI sc σ μ → ∃ μ', At cr2 2000 268 1 [] [302, 0, 71, (x : Int)] μ = some (1, μ') ∧ μ' 999 0 = 95 := fun x σ μ hx h => by
    have e0 : μ 302 0 = (L : Int) := (h.2.2.2.1 0).trans s0
    rw [B268_1, e0, w32_i (by omega) (by omega), if_pos (by omega), B268_45]
    exact ⟨μ, rfl, h.2.2.2.2⟩
  intro n
  induction n with
  | zero => exact fun x σ μ hx _ h => stop x σ μ (by omega) h
  | succ n ih =>
    intro x σ μ hx hxl h
    by_cases q : L ≤ x + 5
    · exact stop x σ μ q h
    · obtain ⟨σ', μ', a, b⟩ := lw_1 s0 i5 h3 (show x + 5 < L by omega) h
      have w : w32 ((x : Int) + 6) = ((x + 6 : Nat) : Int) := by
        rw [w32_i (by omega) (by omega)]; omega
      rw [a, B268_44, w]
      exact ih (x + 6) σ' μ' (by omega) (by omega) b
def scr (L : Nat) (xs : Nat → Int32) (j : Nat) : Int := if j = 0 then (L : Int) else (xs (j - 1)).toInt
theorem scr_i (L : Nat) (xs : Nat → Int32) (j : Nat) : i32 (scr L xs (j + 1)) := by
  unfold scr
  rw [if_neg (by omega)]
  have h1 := Int32.le_toInt (xs (j + 1 - 1))
  have h2 := Int32.toInt_lt (xs (j + 1 - 1))
  exact ⟨by omega, by omega⟩
theorem mu0_ov (L : Nat) (xs : Nat → Int32) : amMu0 L xs = ov (scr L xs) zm := by
  funext c
  unfold amMu0 ov
  by_cases e : c = 302
  · rw [if_pos e]
    funext j
    rw [if_pos e]
    rfl
  · rw [if_neg e]
    funext j
    rw [if_neg e]
    rfl
theorem K0_R (σ : Nat → Int) (v : Int) : ∀ b st ls μ, μ 302 0 = 0 → oR σ (K0 v b st ls μ) (K0 v b st ls (ov σ μ)) := fun b st ls μ z => by
  unfold K0
  exact oR_if (fun _ => oR_so _ _ z) (fun _ => oR_no _ _)
theorem lawI0_ok : lawI0.all okI = true := by decide +kernel
/-- the law comes to its loop -/
theorem law_in (L : Nat) (xs : Nat → Int32) : ∃ μ, ckM μ = true ∧ μ 302 0 = 0 ∧ amLaw L xs = amLawK 1 [] [302, 0, 71, 0] (ov (scr L xs) μ) := by
  have r1 := R0_ok
  have r2 := R0_2
  have go : ∀ v r, R0 v = some r → runB cr0 (RD cr0 2000) mrt (K0 v) lawI0 [] (ent 268 [302]) (amMu0 L xs) = some (r.1, ov (scr L xs) r.2) ∧ r.2 302 0 = 0 := fun v r e => by
    have q := oR_run (σ := scr L xs) (cr := cr0) (rt := mrt) (fun m xs' μ z => oR_RN (σ := scr L xs) 400 2000 m xs' μ z) (K0_R (scr L xs) v) lawI0 lawI0_ok [] (ent 268 [302]) zm rfl r e
    rw [mu0_ov]
    exact ⟨q.2, q.1⟩
  cases e1 : R0 1 with
  | none => rw [e1] at r1; cases r1
  | some a =>
    cases e2 : R0 2 with
    | none => rw [e2] at r2; cases r2
    | some b =>
      rw [e1] at r1
      rw [e2] at r2
      have r1 : (decide (a.1 = 1) && ckM a.2) = true := r1
      have r2 : decide (b.1 = 2) = true := r2
      rw [Bool.and_eq_true] at r1
      have a1 := of_decide_eq_true r1.1
      have b1 := of_decide_eq_true r2
      obtain ⟨g1, g1z⟩ := go 1 a e1
      obtain ⟨g2, -⟩ := go 2 b e2
      rw [a1] at g1
      rw [b1] at g2
      rcases amTL_run (cr := cr0) (call := RD cr0 2000) (rt := mrt) lawI0 [] (ent 268 [302]) (amMu0 L xs) with ⟨o, ho⟩ | ⟨bb, st, ls, μ', ho⟩
      · have g3 := ((ho (K0 1)).symm.trans g1).symm.trans ((ho (K0 2)).symm.trans g2)
        have := congrArg Prod.fst (Option.some.inj g3)
        exact absurd (show (1 : Int) = 2 from this) (by decide)
      · have q : K0 1 bb st ls μ' = some (1, ov (scr L xs) a.2) := (ho (K0 1)).symm.trans g1
        unfold K0 at q
        by_cases c : bb = 1 ∧ st = [] ∧ nrm (msk 268 1) ls = [302, 0, 71, 0]
        · rw [if_pos c] at q
          have e3 : μ' = ov (scr L xs) a.2 := congrArg Prod.snd (Option.some.inj q)
          refine ⟨a.2, r1.2, g1z, ?_⟩
          have m := ho amLawK
          rw [c.1, c.2.1, e3] at m
          refine (show amLaw L xs = _ from m).trans ?_
          unfold amLawK
          rw [c.2.2]
          rfl
        · rw [if_neg c] at q
          cases q
theorem law_true : ∀ (L : Nat) (xs : Nat → Int32), L ≤ 3072 → ∃ m', amLaw L xs = some (1, m') ∧ amCnt m' ≤ 95 := fun L xs h3 => by
  obtain ⟨μ, h1, hz, h2⟩ := law_in L xs
  obtain ⟨c1, c2, c3, c4, c5⟩ := ck_all h1
  have ne : ∀ c i, c ≠ 302 → ov (scr L xs) μ c i = μ c i := fun c i hc => by rw [ov_ne _ _ hc]
  have nT : ∀ q ∈ ckT, q.1 ≠ 302 := by decide
  obtain ⟨i1, i2⟩ := s0_I (μ := ov (scr L xs) μ) (fun q hq => (ne _ _ (nT q hq)).trans (c1 q hq)) (fun k hk => ⟨(ne _ _ (by decide)).trans (c2 k hk).1, (ne _ _ (by decide)).trans (c2 k hk).2⟩) (fun k hk => ⟨⟨⟨(ne _ _ (by omega)).trans (c3 k hk).1.1.1, (ne _ _ (by omega)).trans (c3 k hk).1.1.2⟩, ⟨(ne _ _ (by decide)).trans (c3 k hk).1.2.1.1, (ne _ _ (by decide)).trans (c3 k hk).1.2.1.2⟩, ⟨(ne _ _ (by decide)).trans (c3 k hk).1.2.2.1.1, (ne _ _ (by decide)).trans (c3 k hk).1.2.2.1.2⟩, (ne _ _ (by decide)).trans (c3 k hk).1.2.2.2⟩, fun i hi => (ne _ _ (by decide)).trans ((c3 k hk).2 i hi)⟩) (fun j hj => (ne _ _ (by decide)).trans (c4 j hj))
  have ag : amAg (ov (scr L xs) μ) := fun c j v e => (ne _ _ (by have := (cr2_lt e).1; omega)).trans (c5 c j v e)
  have li : LI (scr L xs) s0 (ov (scr L xs) μ) := ⟨s0_ok, i1, i2, fun j => congrFun (if_pos rfl) j, (ne _ _ (by decide)).trans (c1 (999, 0, 95) (by decide))⟩
  obtain ⟨m', g1, g2⟩ := lw_l (sc := scr L xs) (if_pos rfl) (scr_i L xs) h3 L 0 s0 (ov (scr L xs) μ) (by omega) (by omega) li
  refine ⟨m', ?_, ?_⟩
  · rw [h2]
    unfold amLawK
    rw [if_pos ag]
    exact g1
  · unfold amCnt
    rw [g2]
    decide
