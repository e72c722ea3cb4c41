/-! ===== the class's search: what its runs hold and write ===== -/
def Gnd (lev c i : Nat) : Bool := decide ((44 + lev ≤ c ∧ c ≤ 47) ∨ (c = 48 ∧ lev + 1 ≤ i) ∨ c = 15 ∨ c = 18)
def Gat (lev l c i : Nat) : Bool := decide ((44 + lev ≤ c ∧ c ≤ 47) ∨ (c = 48 ∧ lev + 1 ≤ i) ∨ c = 15 ∨ c = 18 ∨ (c = 49 ∧ i = l))
def Ga5 (lev l c i : Nat) : Bool := decide ((44 + lev ≤ c ∧ c ≤ 47) ∨ (c = 48 ∧ lev + 1 ≤ i) ∨ c = 15 ∨ c = 18 ∨ (c = 5 ∧ i = l))
def Gpr (lev a b c i : Nat) : Bool := decide ((44 + lev ≤ c ∧ c ≤ 47) ∨ (c = 48 ∧ lev + 1 ≤ i) ∨ c = 15 ∨ c = 18 ∨ (c = 49 ∧ (i = a ∨ i = b)))
theorem dn {p : Prop} {hd : Decidable p} (h : ¬ p) : @decide p hd = false := decide_eq_false h
theorem nd_of {p : Prop} {hd : Decidable p} (h : @decide p hd = false) : ¬ p := of_decide_eq_false h
theorem SN9_G {lev : Nat} (hlev : lev < 4) {μ μ' : amM} (h : same (SN9 lev) μ μ') : same (Gnd lev) μ μ' := h.wide (fun c i q => by
  have w := nd_of q
  exact SN9_f (by omega) (by omega))
theorem SStk_G {lev : Nat} {μ μ' : amM} (h : same SStk μ μ') : same (Gnd lev) μ μ' := h.wide (fun c i q => by
  have w := nd_of q
  unfold SStk
  rw [beq_f (by omega), beq_f (by omega)]; rfl)
theorem Gnd_up {lev : Nat} {μ μ' : amM} (h : same (Gnd (lev + 1)) μ μ') : same (Gnd lev) μ μ' := h.wide (fun c i q => dn (by
  have w := nd_of q
  omega))
theorem Gnd_at {lev l : Nat} {μ μ' : amM} (h : same (Gnd lev) μ μ') : same (Gat lev l) μ μ' := h.wide (fun c i q => dn (by
  have w := nd_of q
  omega))
theorem Gnd_a5 {lev l : Nat} {μ μ' : amM} (h : same (Gnd lev) μ μ') : same (Ga5 lev l) μ μ' := h.wide (fun c i q => dn (by
  have w := nd_of q
  omega))
theorem Gat_pr1 {lev a b : Nat} {μ μ' : amM} (h : same (Gat lev a) μ μ') : same (Gpr lev a b) μ μ' := h.wide (fun c i q => dn (by
  have w := nd_of q
  omega))
theorem Gat_pr2 {lev a b : Nat} {μ μ' : amM} (h : same (Gat lev b) μ μ') : same (Gpr lev a b) μ μ' := h.wide (fun c i q => dn (by
  have w := nd_of q
  omega))
/-- the town with other codes: costs are the same -/
def NDt (k : K) (t : Tn) : Prop := t.Ok ∧ (∀ l, t.kind l = k.t.kind l) ∧ (∀ l, t.m l = k.t.m l) ∧ t.lots = k.t.lots
def K.to (k : K) (t : Tn) : K := (t, k.2)
def K.W (k : K) (m : Nat) : Int := if m / 4 < k.t.lots then k.cost (m / 4) (m % 4) else 0
theorem NDt.turn {k : K} {t : Tn} (h : NDt k t) {l kk : Nat} (hl : l < t.lots) (ne : t.kind l ≠ -1) (hk : kk < 4) {s : Int} (hs : 0 ≤ s ∧ s < 4) : NDt k (t.turn l kk s) := ⟨turn_ok h.1 hl ne hk hs, fun j => (cod_kind t l _ j).trans (h.2.1 j), fun j => (cod_m t l _ j).trans (h.2.2.1 j), h.2.2.2⟩
theorem cost_to {k : K} {t : Tn} (h : NDt k t) {l kk : Nat} (hl : l < t.lots) (hk : kk < 4) : (k.to t).cost l kk = k.W (4 * l + kk) := by
  have hl2 : l < k.t.lots := by
    rw [← h.2.2.2]; exact hl
  unfold K.W
  rw [show (4 * l + kk) / 4 = l by omega, show (4 * l + kk) % 4 = kk by omega, if_pos hl2]
  have ek : Tn.kind (K.t (k.to t)) l = k.t.kind l := h.2.1 l
  have em : Tn.m (K.t (k.to t)) l = k.t.m l := h.2.2.1 l
  unfold K.cost
  rw [ek, em]
  rfl
theorem W_R {k : K} (ok : k.Ok) {t : Tn} (h : NDt k t) {m : Nat} (hb : t.bound (m / 4) = true) : 0 ≤ k.W m ∧ k.W m ≤ 198 := by
  unfold K.W
  by_cases q : m / 4 < k.t.lots
  · rw [if_pos q]
    unfold Tn.bound at hb
    rw [h.2.1, Bool.and_eq_true, Bool.not_eq_true', Bool.not_eq_true'] at hb
    have c := cost_R ok q (ne_of_beq_false hb.1) (m % 4)
    exact ⟨c.2.2 (ne_of_beq_false hb.2), c.2.1⟩
  · rw [if_neg q]; decide
theorem W_P {k : K} (ok : k.Ok) {t : Tn} (h : NDt k t) : WP k.W t := fun m hb => (W_R ok h hb).1
theorem sm_le198 {F G : Nat → Int} : ∀ n, (∀ i, i < n → F i ≤ 198 * G i) → sm n F ≤ 198 * sm n G
  | 0, _ => Int.le_refl _
  | n + 1, h => by
    have a := sm_le198 n (fun i hi => h i (by omega))
    have b := h n (by omega)
    show sm n F + F n ≤ 198 * (sm n G + G n)
    omega
theorem CC_B {k : K} (ok : k.Ok) {t : Tn} (h : NDt k t) {L : Nat → Bool} {c : Nat → Int} (hg : tg t L c) : CC k.W t c ≤ 198 * DD t c := sm_le198 _ (fun m hm => by
  by_cases q : mkx t.code m = mkx c m
  · rw [if_pos q, if_pos q]; decide
  · rw [if_neg q, if_neg q]
    have := (W_R ok h (hg.1 m hm q).1).2
    show k.W m ≤ 198 * 1
    omega)
theorem nd_B {k : K} (ok : k.Ok) {t : Tn} (h : NDt k t) (r : Nat) (L : Nat → Bool) {Q : List (Nat × Nat)} (hQ : QW t Q) : -1 ≤ nd k.W r t L Q ∧ nd k.W r t L Q ≤ 198 * (r : Int) := by
  have N := nd_R r t L Q h.1 (W_P ok h) hQ
  refine ⟨N.1, ?_⟩
  by_cases q : nd k.W r t L Q = -1
  · rw [q]; omega
  · obtain ⟨c, c1, c2, c3⟩ := N.2.1 q
    have := CC_B ok h c1
    omega
/-- what the class holds while it searches -/
def NDm (k : K) (L : Nat → Bool) (μ : amM) : Prop := TX 13 0 k.x0 μ ∧ μ 41 3 = 1 ∧ μ 41 4 = 2 ∧ ∀ l, l < 64 → μ 49 l = lkm L l
theorem TC.pr {lev a b : Nat} {t : Tn} {μ μ' : amM} (h : TC 2 t μ) (hs : same (Gpr lev a b) μ μ') : TC 2 t μ' := h.keep hs (fun _ _ _ => dn (by omega)) (fun _ => dn (by omega)) (fun _ => dn (by omega)) (fun _ => dn (by omega)) (fun _ => dn (by omega)) (fun _ => dn (by omega))
theorem TC.nd {lev : Nat} {t : Tn} {μ μ' : amM} (h : TC 2 t μ) (hs : same (Gnd lev) μ μ') : TC 2 t μ' := h.pr (lev := lev) (a := 0) (b := 0) (Gat_pr1 (Gnd_at hs))
theorem NDm.lk {k : K} {L L' : Nat → Bool} {μ μ' : amM} {S : Nat → Nat → Bool} (h : NDm k L μ) (hs : same S μ μ') (s1 : S 13 2 = false) (s2 : ∀ i, S 14 i = false) (s3 : S 41 3 = false) (s4 : S 41 4 = false) (hL : ∀ l, l < 64 → μ' 49 l = lkm L' l) : NDm k L' μ' := ⟨h.1.keep hs s1 s2, (hs _ _ s3).trans h.2.1, (hs _ _ s4).trans h.2.2.1, hL⟩
theorem NDm.nd {k : K} {L : Nat → Bool} {lev : Nat} {μ μ' : amM} (h : NDm k L μ) (hs : same (Gnd lev) μ μ') : NDm k L μ' := h.lk hs (dn (by omega)) (fun _ => dn (by omega)) (dn (by omega)) (dn (by omega)) (fun l hl => (hs _ _ (dn (by omega))).trans (h.2.2.2 l hl))
theorem LQ.pr {lev a b : Nat} {Q : List (Nat × Nat)} {μ μ' : amM} (hl : lev < 5) (h : LQ lev Q μ) (hs : same (Gpr lev a b) μ μ') : LQ lev Q μ' := ⟨(hs _ _ (dn (by omega))).trans h.1, fun i hi => (hs _ _ (dn (by omega))).trans (h.2 i hi)⟩
theorem mn_e (d : Nat) (a b : Int) (μ : amM) : RD cr2 (d + 1) 22 [a, b] μ = some (mn a b, μ) := by
  rw [M22]
  unfold mn
  by_cases q : a = -1
  · rw [if_pos q, B22_1, jmax_e, if_pos (Or.inl q)]
  · rw [if_neg q]
    by_cases q2 : b = -1
    · rw [if_pos q2, B22_1, jmax_e, if_pos (Or.inr q2)]
    · rw [if_neg q2, B22_2, jmin_e, if_neg (by omega)]
/-- one sort tried -/
theorem at_s (d : Nat) {k : K} {t : Tn} {L : Nat → Bool} {Q : List (Nat × Nat)} {lev r l kk : Nat} (hlev : lev < 4) (hr : r < 4) (ht : NDt k t) (hQ : QW t Q) (hl : l < t.lots) (hb : t.bound l = true) (hk : kk < 4) {F : Tn → Int} {μ1 : amM} (h : TC 2 t μ1) (hm : NDm k L μ1) (hq : LQ lev Q μ1) {s : Nat} (hs : s < 3) (hF : ∀ μ', NDt k (t.turn l kk (s : Int)) → TC 2 (t.turn l kk (s : Int)) μ' → NDm k L μ' → QW (t.turn l kk (s : Int)) (nxt (t.turn l kk (s : Int)) l Q) → LQ (lev + 1) (nxt (t.turn l kk (s : Int)) l Q) μ' → ∃ μ'', RD cr2 (d + 8) 17 [41, ((lev + 1 : Nat) : Int), (r : Int)] μ' = some (F (t.turn l kk (s : Int)), μ'') ∧ same (Gnd (lev + 1)) μ' μ'') (b : Int) (μs : amM) (hs5 : same (Ga5 lev l) μ1 μs) : ∃ μ', At cr2 (d + 8) 18 2 [] [41, (l : Int), (kk : Int), (lev : Int), ((r + 1 : Nat) : Int), t.code l, b, (s : Int)] μs = At cr2 (d + 8) 18 2 [] [41, (l : Int), (kk : Int), (lev : Int), ((r + 1 : Nat) : Int), t.code l, tr1 F t l kk s b, ((s + 1 : Nat) : Int)] μ' ∧ same (Ga5 lev l) μ1 μ' := by
  have h64 := ht.1.le.2
  have ne := Tn.bound_ne hb
  have cd := ((ht.1.2 l hl).2 ne).2.2
  have wi : w32 ((s : Int) + 1) = ((s + 1 : Nat) : Int) := wi1 (by omega)
  have wl : w32 ((lev : Int) + 1) = ((lev + 1 : Nat) : Int) := wi1 (by omega)
  have wr' : w32 (((r + 1 : Nat) : Int) - 1) = (r : Int) := by
    rw [w32_i (by omega) (by omega)]; omega
  have e4 : μs 41 4 = 2 := (hs5 _ _ (dn (by omega))).trans hm.2.2.1
  have hk4 : (0 : Int) ≤ (kk : Int) ∧ (kk : Int) < 4 := by omega
  rw [B18_2, if_pos (show (s : Int) < 3 by omega), sortAt_e _ _ cd hk4, bnd_s, Int.toNat_natCast]
  unfold tr1
  by_cases q : (s : Int) = mk (t.code l) kk
  · rw [if_pos q, if_pos q, B18_3, wi]
    exact ⟨μs, rfl, hs5⟩
  · have hs4 : (0 : Int) ≤ (s : Int) ∧ (s : Int) < 4 := by omega
    have htt := ht.turn hl ne hk hs4
    have l64 : l < 64 := Nat.lt_of_lt_of_le hl h64
    have sa : same (Gnd lev) (up μ1 5 l (ws (t.code l) kk (s : Int))) (up μs 5 l (ws (t.code l) kk (s : Int))) := fun c i g => by
      have w := nd_of g
      by_cases e : c = 5 ∧ i = l
      · rw [e.1, e.2, up_eq, up_eq]
      · rw [up_ne _ _ _ _ (by omega), up_ne _ _ _ _ (by omega)]
        exact hs5 c i (dn (by omega))
    have h2 : TC 2 (t.turn l kk (s : Int)) (up μs 5 l (ws (t.code l) kk (s : Int))) := (cod_c h hl ne _).nd sa
    have hm1 : NDm k L (up μ1 5 l (ws (t.code l) kk (s : Int))) := ⟨⟨(up_ne _ _ _ _ (Or.inl (by decide))).trans hm.1.1, fun i hi => (up_ne _ _ _ _ (Or.inl (by decide))).trans (hm.1.2 i hi)⟩, (up_ne _ _ _ _ (Or.inl (by decide))).trans hm.2.1, (up_ne _ _ _ _ (Or.inl (by decide))).trans hm.2.2.1, fun j hj => (up_ne _ _ _ _ (Or.inl (by decide))).trans (hm.2.2.2 j hj)⟩
    have hm2 := hm1.nd sa
    have hq1 : LQ lev Q (up μ1 5 l (ws (t.code l) kk (s : Int))) := ⟨(up_ne _ _ _ _ (Or.inl (by decide))).trans hq.1, fun i hi => (up_ne _ _ _ _ (Or.inl (by omega))).trans (hq.2 i hi)⟩
    have hq2 : LQ lev Q (up μs 5 l (ws (t.code l) kk (s : Int))) := hq1.pr (a := 0) (b := 0) (by omega) (Gat_pr1 (Gnd_at sa))
    have hQ2 := QW.next ht.1 (k := kk) hl (s := (s : Int)) hQ
    have hQl : Q.length ≤ 128 := by
      rw [hQ.len]; exact ht.1.wl_le
    have hNl : (nxt (t.turn l kk (s : Int)) l Q).length ≤ 128 := by
      rw [hQ2.len]; exact htt.1.wl_le
    obtain ⟨μ3, a1, a2, a3⟩ := nxt_e (d + 2) htt.1 hlev (lot := l) hl hQl (fun p hp => by
      have m := hQ.mem ht.1 hp
      exact ⟨Nat.lt_of_lt_of_le m.1 h64, Nat.lt_of_lt_of_le m.2.1 h64⟩) hNl h2 hm2.2.2.1 hq2
    have a3 := SN9_G hlev a3
    obtain ⟨μ4, b1, b2⟩ := hF μ3 htt (h2.nd a3) (hm2.nd a3) hQ2 a2
    have b2 := Gnd_up b2
    rw [if_neg q, if_neg q, e4, if_pos rfl, withSort_e _ _ cd hk4 hs4, bnd_s, Int.toNat_natCast, wr_p (geI _) (ltI l64), Int.toNat_natCast]
    refine ⟨μ4, ?_, ?_⟩
    · show bnd (RD cr2 (d + 2 + 6) 19 _ _) _ = _
      rw [a1, bnd_s, wl, wr', b1, bnd_s, mn_e, bnd_s, B18_3, wi]
    · intro c i g
      have w := nd_of g
      rw [b2 c i (dn (by omega)), a3 c i (dn (by omega)), up_ne _ _ _ _ (by omega)]
      exact hs5 c i g
/-- one mark tried, with all its sorts -/
theorem at_c (d : Nat) {k : K} (okk : k.Ok) {t : Tn} {L : Nat → Bool} {Q : List (Nat × Nat)} {lev r l kk : Nat} (hlev : lev < 4) (hr : r < 4) (ht : NDt k t) (hQ : QW t Q) (hl : l < t.lots) (hb : t.bound l = true) (hk : kk < 4) (hL : L (4 * l + kk) = false) {F : Tn → Int} {μ : amM} (h : TC 2 t μ) (hm : NDm k L μ) (hq : LQ lev Q μ) (hB : ∀ s : Nat, s < 3 → -1 ≤ F (t.turn l kk (s : Int)) ∧ F (t.turn l kk (s : Int)) ≤ 1000000) (hF : ∀ s : Nat, s < 3 → ∀ μ', NDt k (t.turn l kk (s : Int)) → TC 2 (t.turn l kk (s : Int)) μ' → NDm k (lk1 L (4 * l + kk)) μ' → QW (t.turn l kk (s : Int)) (nxt (t.turn l kk (s : Int)) l Q) → LQ (lev + 1) (nxt (t.turn l kk (s : Int)) l Q) μ' → ∃ μ'', RD cr2 (d + 8) 17 [41, ((lev + 1 : Nat) : Int), (r : Int)] μ' = some (F (t.turn l kk (s : Int)), μ'') ∧ same (Gnd (lev + 1)) μ' μ'') : ∃ μ', RD cr2 (d + 9) 18 [41, (l : Int), (kk : Int), (lev : Int), ((r + 1 : Nat) : Int)] μ = some (ads (trs F t l kk) (k.W (4 * l + kk)), μ') ∧ NDm k (lk1 L (4 * l + kk)) μ' ∧ same (Gat lev l) μ μ' := by
  have h64 := ht.1.le.2
  have ne := Tn.bound_ne hb
  have l64 : l < 64 := Nat.lt_of_lt_of_le hl h64
  have ec := ((h.2.1 l hl).2 ne).2
  have T := trs_R t l kk (fun s hs => (hB s hs).1)
  have TB : trs F t l kk ≤ 1000000 := by
    by_cases q : trs F t l kk = -1
    · rw [q]; decide
    · obtain ⟨s, s1, -, s3⟩ := T.2.1 q
      rw [s3]
      exact (hB s s1).2
  have WB := W_R okk ht (m := 4 * l + kk) (by rw [show (4 * l + kk) / 4 = l by omega]; exact hb)
  have g1 : ∀ c i, c ≠ 49 → up μ 49 l (lkm (lk1 L (4 * l + kk)) l) c i = μ c i := fun c i hc => up_ne _ _ _ _ (Or.inl hc)
  have sl : same (Gat lev l) μ (up μ 49 l (lkm (lk1 L (4 * l + kk)) l)) := same.rf.up (decide_eq_true (by omega))
  have h1 : TC 2 t (up μ 49 l (lkm (lk1 L (4 * l + kk)) l)) := h.pr (Gat_pr1 (b := 0) sl)
  have hm1 : NDm k (lk1 L (4 * l + kk)) (up μ 49 l (lkm (lk1 L (4 * l + kk)) l)) := hm.lk sl (dn (by omega)) (fun _ => dn (by omega)) (dn (by omega)) (dn (by omega)) (fun j hj => by
    by_cases e : j = l
    · rw [e, up_eq]
    · rw [up_ne _ _ _ _ (Or.inr e), hm.2.2.2 j hj, lkm_o L hk e])
  have hq1 : LQ lev Q (up μ 49 l (lkm (lk1 L (4 * l + kk)) l)) := hq.pr (by omega) (Gat_pr1 (b := 0) sl)
  have st := fun (s : Nat) (hs : s < 3) => at_s (r := r) d hlev hr ht hQ hl hb hk h1 hm1 hq1 hs (hF s hs)
  obtain ⟨μa, a1, a2⟩ := st 0 (by decide) (-1) _ same.rf
  obtain ⟨μb, b1, b2⟩ := st 1 (by decide) _ μa a2
  obtain ⟨μc, c1, c2⟩ := st 2 (by decide) _ μb b2
  have e4 : μc 41 4 = 2 := (c2 _ _ (dn (by omega))).trans hm1.2.2.1
  have sf : same (Gnd lev) (up μ 49 l (lkm (lk1 L (4 * l + kk)) l)) (up μc 5 l (t.code l)) := fun c i g => by
    have w := nd_of g
    by_cases e : c = 5 ∧ i = l
    · rw [e.1, e.2, up_eq, g1 _ _ (by decide), ec]
    · rw [up_ne _ _ _ _ (by omega)]
      exact c2 c i (dn (by omega))
  have hmf := hm1.nd sf
  have hf := h1.nd sf
  have go : At cr2 (d + 8) 18 2 [] [41, (l : Int), (kk : Int), (lev : Int), ((r + 1 : Nat) : Int), t.code l, -1, 0] (up μ 49 l (lkm (lk1 L (4 * l + kk)) l)) = At cr2 (d + 8) 18 2 [] [41, (l : Int), (kk : Int), (lev : Int), ((r + 1 : Nat) : Int), t.code l, trs F t l kk, 3] μc := a1.trans (b1.trans c1)
  have le : (0 : Int) ≤ (kk : Int) := geI _
  have start : RD cr2 (d + 9) 18 [41, (l : Int), (kk : Int), (lev : Int), ((r + 1 : Nat) : Int)] μ = At cr2 (d + 8) 18 2 [] [41, (l : Int), (kk : Int), (lev : Int), ((r + 1 : Nat) : Int), t.code l, -1, 0] (up μ 49 l (lkm (lk1 L (4 * l + kk)) l)) := by
    rw [M18, rd_p (geI _) (ltI l64), Int.toNat_natCast, hm.2.2.2 l l64, lkm_t L l hk, hL, if_pos (by rfl), B18_1, rd_p (geI _) (ltI l64), Int.toNat_natCast, hm.2.2.2 l l64, wr_p (geI _) (ltI l64), Int.toNat_natCast, lkm_s L l hk, hm1.2.2.1, if_pos rfl, rd_p (geI _) (ltI l64), Int.toNat_natCast, g1 _ _ (by decide), ec]
  rw [start, go, B18_2, if_neg (by decide), B18_4, e4, if_pos rfl, wr_p (geI _) (ltI l64), Int.toNat_natCast]
  unfold ads
  by_cases q : trs F t l kk = -1
  · rw [if_pos q, if_pos q, B18_6]
    exact ⟨_, rfl, hmf, sl.tn (Gnd_at sf)⟩
  · obtain ⟨μd, d1, d2⟩ := costOf_e (d + 4) (k := k.to t) (μ := up μc 5 l (t.code l)) ⟨ht.1, okk.2⟩ hf hmf.1 hl ne kk
    have d2 := SStk_G (lev := lev) d2
    rw [if_neg q, if_neg q, B18_5, hmf.2.1, if_pos rfl, d1, bnd_s, cost_to ht hl hk, w32_i (by omega) (by omega), B18_6]
    exact ⟨μd, rfl, hmf.nd d2, (sl.tn (Gnd_at sf)).tn (Gnd_at d2)⟩
