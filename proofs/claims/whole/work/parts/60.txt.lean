/-! ===== the reference's texts ===== -/
def SWk (c i : Nat) : Bool := Nat.beq c 71 && (Nat.ble 4 i && Nat.ble i 9)
theorem SEv_w {μ μ' : amM} (h : same SEv μ μ') : same SWk μ μ' := by
  refine h.wide (fun c i q => ?_)
  unfold SWk at q
  unfold SEv
  rw [Bool.and_eq_false_iff] at q ⊢
  rcases q with q | q
  · exact Or.inl q
  · refine Or.inr ?_
    by_cases e : 4 ≤ i ∧ i ≤ 9
    · rw [ble_t e.1, ble_t e.2] at q
      cases q
    · by_cases e2 : 5 ≤ i
      · rw [ble_f (a := i) (b := 8) (by omega), Bool.and_false]
      · rw [ble_f (a := 5) (b := i) (by omega)]; rfl
theorem pfB (μ : amM) {v : Int} (hv : v = 0 ∨ v = 1) (f : amM → amR) : amPf cr2 μ 11 9 71 v f = f (up μ 71 9 v) := by
  unfold amPf
  rw [if_pos ⟨rfl, by decide, rfl, fun _ => hv⟩]
  rfl
theorem mWork_e (d : Nat) {u base : Nat} (hu : u < 2) {T : List Int} (hT : TB T) (hb : base ≤ 526) {μ : amM} (hd' : ∀ i, i < T.length → μ 72 (base + i) = T.getD i 0) : ∃ v μ', RD cr2 (d + 66) 169 [71, (base : Int), (T.length : Int), (u : Int)] μ = some (v, μ') ∧ same SWk μ μ' ∧ ((pl u 60 0 0 T).1 = true ∧ (pl u 60 0 0 T).2.1 = [] → μ' 71 7 = -1 ∧ ∀ st, evl (fun k => μ 75 k) (cmp u T) st = v :: st) ∧ (¬ ((pl u 60 0 0 T).1 = true ∧ (pl u 60 0 0 T).2.1 = []) → μ' 71 7 = ((T.length - (pl u 60 0 0 T).2.1.length : Nat) : Int)) := by
  have huv : (u : Int) = 0 ∨ (u : Int) = 1 := by omega
  let μ6 : amM := up (up (up (up (up (up μ 71 4 (base : Int)) 71 5 0) 71 6 (T.length : Int)) 71 7 (-1)) 71 8 0) 71 9 (u : Int)
  have s6 : same SWk μ μ6 := (((((same.rf.up rfl).up rfl).up rfl).up rfl).up rfl).up rfl
  have m6 : MR u base T T 0 (fun k => μ 75 k) μ6 := ⟨⟨[], rfl, rfl⟩, ⟨rfl, rfl, rfl⟩, rfl, rfl, hd', fun k _ => rfl⟩
  obtain ⟨v, μ7, a1, a2, a3, a4⟩ := (ev_all hu hT hb 60 d 0 0 (by decide) (by decide) (by decide)).2 T μ6 m6
  have a1 : RD cr2 (d + 65 - 1) 163 [71] μ6 = some (v, μ7) := a1
  have hl := hT.1
  have E : RD cr2 (d + 66) 169 [71, (base : Int), (T.length : Int), (u : Int)] μ = At cr2 (d + 65) 169 2 [(u : Int), 71] [71, 0, 0, 0, 0] (up (up (up (up (up μ 71 4 (base : Int)) 71 5 0) 71 6 (T.length : Int)) 71 7 (-1)) 71 8 0) := by
    rw [M169, wf_e, wf_e, wf_e, wf_e, wf_e]
    rcases huv with e | e
    · rw [e, if_neg (by decide), B169_1]
    · rw [e, if_pos rfl]
  have ev := (ev_all (nv := fun k => μ 75 k) hu hT hb 60 (d + 1) 0 0 (by decide) (by decide) (by decide)).2 T μ6 m6
  obtain ⟨v, μ7, a1, a2, a3, a4⟩ := ev
  have a1 : RD cr2 (d + 65) 163 [71] μ6 = some (v, μ7) := a1
  have E2 : RD cr2 (d + 66) 169 [71, (base : Int), (T.length : Int), (u : Int)] μ = (if (μ7 71 7) < 0 then (if (μ7 71 5) < (μ7 71 6) then bnd (RD cr2 (d + 65) 160 [71] μ7) (fun v2 μ3 => some (v2, μ3)) else At cr2 (d + 65) 169 3 [] [0, 0, 0, 0, v] μ7) else At cr2 (d + 65) 169 3 [] [0, 0, 0, 0, v] μ7) := by
    rw [E, B169_2, pfB _ huv]
    show bnd (RD cr2 (d + 65) 163 [71] μ6) _ = _
    rw [a1, bnd_s]
  cases hq : (pl u 60 0 0 T).1 with
  | false =>
    have ft := a4 hq
    obtain ⟨pre, e, e7⟩ := id ft
    refine ⟨v, μ7, ?_, s6.tr (SEv_w a2), fun w => no_ft w.1, fun _ => ?_⟩
    · rw [E2, if_neg (by have := ft.ge; omega), B169_3]
    · rw [e7]
      have := congrArg List.length e
      rw [List.length_append] at this
      omega
  | true =>
    obtain ⟨b1, b2⟩ := a3 hq
    obtain ⟨⟨pre, e, e5⟩, ⟨-, e6, -⟩, e7, -⟩ := id b1
    have el := congrArg List.length e
    rw [List.length_append] at el
    by_cases qr : (pl u 60 0 0 T).2.1 = []
    · rw [qr, List.length_nil] at el
      refine ⟨v, μ7, ?_, s6.tr (SEv_w a2), fun _ => ⟨e7, b2⟩, fun w => absurd ⟨rfl, qr⟩ w⟩
      rw [E2, e7, if_pos (by decide), e5, e6, if_neg (by omega), B169_3]
    · have hr : 0 < (pl u 60 0 0 T).2.1.length := List.length_pos_iff.mpr qr
      obtain ⟨μ8, w1, ⟨pre2, f1, f2⟩, w3⟩ := wrongM (d + 64) b1
      refine ⟨0, μ8, ?_, (s6.tr (SEv_w a2)).tr (SEv_w w3), fun w => absurd w.2 qr, fun _ => ?_⟩
      · rw [E2, e7, if_pos (by decide), e5, e6, if_pos (by omega), w1, bnd_s]
      · rw [f2]
        have := congrArg List.length f1
        rw [List.length_append] at this
        omega
theorem held_e (d : Nat) (x a b : Int) (hab : a ≤ b) (μ : amM) : RD cr2 (d + 1) 152 [x, a, b] μ = some (max a (min b x), μ) := by
  rw [M152]
  by_cases q : x < a
  · rw [if_pos q, B152_3, show max a (min b x) = a by omega]
  · rw [if_neg q, B152_1]
    by_cases q2 : b < x
    · rw [if_pos q2, B152_3, show max a (min b x) = b by omega]
    · rw [if_neg q2, B152_2, B152_3, show max a (min b x) = x by omega]
def STg (c i : Nat) : Bool := SWk c i || Nat.beq c 75
theorem TOk.tb {u : Nat} {l : List Int} (h : TOk u l) : TB l := ⟨h.1, h.2.1⟩
theorem gives_e (d : Nat) {u : Nat} (hu : u < 2) {l : List Int} {μ : amM} (ok : TOk u l) (h : MX 72 u l μ) (a b c e : Int) : ∃ μ', RD cr2 (d + 67) 172 [71, (u : Int), a, b, c, e] μ = some ((if u = 0 then max 0 (min 99 (if l = [] then w32 (10 + b) else txv u l a b c e)) else max (-99) (min 99 (if l = [] then 0 else txv u l a b c e))), μ') ∧ same STg μ μ' := by
  have h50 := ok.1
  obtain ⟨h1, h2⟩ := h
  have fin : ∀ (x : Int) (μ1 : amM), At cr2 (d + 66) 172 3 [] [0, (u : Int), 0, 0, 0, 0, x] μ1 = some ((if u = 0 then max 0 (min 99 x) else max (-99) (min 99 x)), μ1) := fun x μ1 => by
    rw [B172_3]
    by_cases q : u = 0
    · rw [if_pos (by omega), if_pos q, held_e _ _ _ _ (by decide), bnd_s, B172_5]
    · rw [if_neg (by omega), if_neg q, B172_4, held_e _ _ _ _ (by decide), bnd_s, B172_5]
  have st : RD cr2 (d + 67) 172 [71, (u : Int), a, b, c, e] μ = At cr2 (d + 66) 172 2 [(if u = 0 then w32 (10 + b) else 0)] [71, (u : Int), a, b, c, e, 0] μ := by
    rw [M172]
    by_cases q : u = 0
    · rw [if_pos (by omega), if_pos q]
    · rw [if_neg (by omega), if_neg q, B172_1]
  rw [st, B172_2, w32_i (x := 404 + (u : Int)) (by omega) (by omega), rd_p (by omega) (by omega), show ((404 : Int) + (u : Int)).toNat = 404 + u by omega, h1]
  by_cases q : l = []
  · rw [q, List.length_nil, if_neg (by decide), fin, if_pos rfl, if_pos rfl]
    refine ⟨μ, ?_, same.rf⟩
    by_cases q2 : u = 0
    · rw [if_pos q2, if_pos q2, if_pos q2]
    · rw [if_neg q2, if_neg q2, if_neg q2]
  · have hlen : 0 < l.length := List.length_pos_iff.mpr q
    let μ4 : amM := up (up (up (up μ 75 0 a) 75 1 b) 75 2 c) 75 3 e
    have s4 : same STg μ μ4 := (((same.rf.up rfl).up rfl).up rfl).up rfl
    have hnv : ∀ k, k < 4 → μ4 75 k = nv4 a b c e k := fun k hk => by
      match k, hk with
      | 0, _ => rfl
      | 1, _ => rfl
      | 2, _ => rfl
      | 3, _ => rfl
    obtain ⟨v, μ5, g1, g2, g3, -⟩ := mWork_e d hu (T := l) ok.tb (base := 426 + 50 * u) (by omega) (μ := μ4) (fun i hi => h2 i hi)
    have g1 : RD cr2 (d + 66) 169 [71, ((426 + 50 * u : Nat) : Int), (l.length : Int), (u : Int)] μ4 = some (v, μ5) := g1
    obtain ⟨k1, k2⟩ := g3 (ok.2.2.resolve_left q)
    have ev : txv u l a b c e = v := by
      unfold txv
      rw [evl_congr (nv := nv4 a b c e) (nv' := fun k => μ4 75 k) (cmp u l) [] (fun p hp p1 p2 => ?_), k2 []]
      · rfl
      · rcases pl_pt u 60 0 0 l p hp with w | ⟨x, hx, ee⟩ | w
        · omega
        · have := nmo_R u x
          exact (hnv _ (by omega)).symm
        · omega
    rw [if_pos (by omega), wf_e, wf_e, wf_e, wf_e]
    show ∃ μ', rd 72 576 μ4 (404 + (u : Int)) _ = _ ∧ _
    have e404 : μ4 72 (404 + u) = (l.length : Int) := h1
    rw [rd_p (by omega) (by omega), show ((404 : Int) + (u : Int)).toNat = 404 + u by omega, e404, w32_i (x := 50 * (u : Int)) (by omega) (by omega), w32_i (x := 426 + 50 * (u : Int)) (by omega) (by omega), show (426 : Int) + 50 * (u : Int) = ((426 + 50 * u : Nat) : Int) by omega, g1, bnd_s, fin, if_neg q, if_neg q, ev]
    exact ⟨μ5, rfl, s4.tr (g2.wide (fun c i w => (Bool.or_eq_false_iff.mp w).1))⟩
theorem mCost_e (d : Nat) {k : K} {μ : amM} (ok : k.Ok) (h : MX 72 0 k.x0 μ) (a b c e : Int) : ∃ μ', RD cr2 (d + 67) 172 [71, 0, a, b, c, e] μ = some (cst k a b, μ') ∧ same STg μ μ' := by
  obtain ⟨μ', g1, g2⟩ := gives_e d (u := 0) (by decide) ok.2.2.2.1.1 h a b c e
  rw [if_pos rfl, txv_0 k.x0 a b c e 0 0] at g1
  exact ⟨μ', g1, g2⟩
theorem mWth_e (d : Nat) {k : K} {μ : amM} (ok : k.Ok) (h : MX 72 1 k.x1 μ) (a b c e : Int) : ∃ μ', RD cr2 (d + 67) 172 [71, 1, a, b, c, e] μ = some (wth k a b c e, μ') ∧ same STg μ μ' := by
  obtain ⟨μ', g1, g2⟩ := gives_e d (u := 1) (by decide) ok.2.2.2.1.2 h a b c e
  rw [if_neg (by decide)] at g1
  refine ⟨μ', ?_, g2⟩
  unfold wth
  by_cases q : k.x1 = []
  · rw [if_pos q] at g1 ⊢
    exact g1
  · rw [if_neg q] at g1 ⊢
    exact g1
theorem STg_Sc {μ μ' : amM} (h : same STg μ μ') : same (or2 h0 ScM) μ μ' := by
  refine h.wide (fun c i q => ?_)
  have q := or2_r q
  unfold STg SWk
  by_cases e : c = 71
  · subst e
    by_cases e2 : 4 ≤ i ∧ i ≤ 9
    · have : i = 4 ∨ i = 5 ∨ i = 6 ∨ i = 7 ∨ i = 8 ∨ i = 9 := by omega
      rcases this with rfl | rfl | rfl | rfl | rfl | rfl <;> cases q
    · by_cases e3 : 4 ≤ i
      · rw [ble_f (a := i) (b := 9) (by omega), Bool.and_false]; rfl
      · rw [ble_f (a := 4) (b := i) (by omega)]; rfl
  · by_cases e2 : c = 75
    · rw [e2] at q; cases q
    · rw [beq_f e, beq_f e2]; rfl
theorem STg_F {μ μ' : amM} (h : same STg μ μ') : same FM μ μ' := by
  refine h.wide (fun c i q => ?_)
  unfold STg SWk
  by_cases e : c = 71
  · subst e
    by_cases e2 : 4 ≤ i ∧ i ≤ 9
    · have : i = 4 ∨ i = 5 ∨ i = 6 ∨ i = 7 ∨ i = 8 ∨ i = 9 := by omega
      rcases this with rfl | rfl | rfl | rfl | rfl | rfl <;> cases q
    · by_cases e3 : 4 ≤ i
      · rw [ble_f (a := i) (b := 9) (by omega), Bool.and_false]; rfl
      · rw [ble_f (a := 4) (b := i) (by omega)]; rfl
  · by_cases e2 : c = 75
    · rw [e2] at q; cases q
    · rw [beq_f e, beq_f e2]; rfl
theorem law_m (d : Nat) {σ : St} {μ : amM} (ok : σ.Ok) (h : MI σ μ) (u a b c e : Int) : OM μ (RD cr2 (d + 70) 173 [71, u, a, b, c, e] μ) (lawS σ u a b c e) := by
  unfold lawS
  rw [M173, in_e, bnd_s, ifb]
  refine OM.cd (fun hu => ?_) (fun _ => ?_)
  · by_cases q : u = 0
    · obtain ⟨μ', g1, g2⟩ := mCost_e (d + 2) ok.1 h.1.2.2.2.1.1 a b c e
      rw [if_pos q, q, g1, bnd_s, B173_2]
      exact ⟨μ', rfl, h.set0 ok (STg_Sc g2), STg_F g2⟩
    · have q1 : u = 1 := by
        obtain ⟨n, rfl, hn⟩ := wi_n hu
        omega
      obtain ⟨μ', g1, g2⟩ := mWth_e (d + 2) ok.1 h.1.2.2.2.1.2 a b c e
      rw [if_neg q, q1, g1, bnd_s, B173_2]
      exact ⟨μ', rfl, h.set0 ok (STg_Sc g2), STg_F g2⟩
  · rw [B173_1]
    exact (OM.no _ ok h (by decide) (by decide)).bi (fun _ _ => by rw [B173_2])
/-! text -/
def tl (k : K) : List Int := (List.range k.nb).map k.tp
theorem tl_len (k : K) : (tl k).length = k.nb := by
  unfold tl
  rw [List.length_map, List.length_range]
theorem tl_get (k : K) {i : Nat} (h : i < k.nb) : (tl k).getD i 0 = k.tp i := by
  unfold tl
  rw [List.getD_eq_getElem?_getD, List.getElem?_map, List.getElem?_range h]
  rfl
theorem tl_TB {k : K} (ok : k.Ok) : TB (tl k) := by
  refine ⟨by rw [tl_len]; exact ok.2.1.1, fun c hc => ?_⟩
  unfold tl at hc
  obtain ⟨i, hi, rfl⟩ := List.mem_map.mp hc
  exact ok.2.1.2 i (List.mem_range.mp hi)
def St.out (σ : St) : St := σ.setX 0 σ.k.tp
def St.hasT (σ : St) (u : Nat) : St := if u = 0 then σ.out.setP (tl σ.k) σ.k.x1 else σ.out.setP σ.k.x0 (tl σ.k)
def textS (σ : St) (u : Int) : Int × St := bif (decide (0 ≤ u) && decide (u ≤ 1)) then (if (pl u.toNat 60 0 0 (tl σ.k)).1 = true ∧ (pl u.toNat 60 0 0 (tl σ.k)).2.1 = [] then (1, σ.hasT u.toNat) else (-10 - ((σ.k.nb - (pl u.toNat 60 0 0 (tl σ.k)).2.1.length : Nat) : Int), σ.out)) else σ.no 1
theorem out_ok {σ : St} (ok : σ.Ok) : σ.out.Ok := ⟨⟨ok.1.1, ⟨Nat.zero_le _, fun i hi => absurd hi (Nat.not_lt_zero i)⟩, ok.1.2.2⟩, ok.2⟩
theorem text_ok {σ : St} (ok : σ.Ok) (u : Int) : (textS σ u).2.Ok := by
  refine cd_ok (fun hu => if_ok (fun q => ?_) (fun _ => out_ok ok)) (fun _ => ok)
  obtain ⟨n, rfl, hn⟩ := wi_n hu
  rw [Int.toNat_natCast] at q ⊢
  have hT := tl_TB ok.1
  have hk : TOk n (tl σ.k) := ⟨hT.1, hT.2, Or.inr q⟩
  have o := out_ok ok
  show (if n = 0 then σ.out.setP (tl σ.k) σ.k.x1 else σ.out.setP σ.k.x0 (tl σ.k)).Ok
  by_cases q0 : n = 0
  · subst q0
    rw [if_pos rfl]
    exact ⟨⟨o.1.1, o.1.2.1, o.1.2.2.1, ⟨hk, ok.1.2.2.2.1.2⟩, o.1.2.2.2.2⟩, o.2⟩
  · have q1 : n = 1 := by omega
    subst q1
    rw [if_neg (by decide)]
    exact ⟨⟨o.1.1, o.1.2.1, o.1.2.2.1, ⟨ok.1.2.2.2.1.1, hk⟩, o.1.2.2.2.2⟩, o.2⟩
def S37 (c i : Nat) : Bool := (Nat.beq c 37 && Nat.ble 1 i) || (Nat.beq c 38 && Nat.ble 2 i) || Nat.beq c 39
theorem SRd_w {μ μ' : amM} (h : same SRd μ μ') : same S37 μ μ' := by
  refine h.wide (fun c i q => ?_)
  unfold S37 at q
  unfold SRd
  rw [Bool.or_eq_false_iff, Bool.or_eq_false_iff, Bool.and_eq_false_iff, Bool.and_eq_false_iff] at q
  have e1 : (Nat.beq c 37 && Nat.beq i 3) = false := by
    rcases q.1.1 with e | e
    · rw [e]; rfl
    · rw [beq_f (show i ≠ 3 by intro w; rw [w] at e; cases e), Bool.and_false]
  have e2 : (Nat.beq c 38 && Nat.beq i 2) = false := by
    rcases q.1.2 with e | e
    · rw [e]; rfl
    · rw [beq_f (show i ≠ 2 by intro w; rw [w] at e; cases e), Bool.and_false]
  rw [e1, e2, q.2]; rfl
theorem fault_e (d : Nat) {u : Nat} (hu : u < 2) {T : List Int} (hT : TB T) {μ : amM} (h11 : ∀ i, i < T.length → μ 11 i = T.getD i 0) : ∃ μ', RD cr2 (d + 187) 24 [37, 11, (T.length : Int), (u : Int)] μ = some ((if (pl u 60 0 0 T).1 = true ∧ (pl u 60 0 0 T).2.1 = [] then -1 else ((T.length - (pl u 60 0 0 T).2.1.length : Nat) : Int)), μ') ∧ same S37 μ μ' ∧ (μ' 38 2 = ((cmp u T).length : Int) ∧ ∀ i, i < (cmp u T).length → μ' 39 i = (cmp u T).getD i 0) := by
  let μ5 : amM := up (up (up (up (up μ 37 1 11) 37 2 (T.length : Int)) 37 4 (u : Int)) 37 3 0) 38 2 0
  have s5 : same S37 μ μ5 := ((((same.rf.up rfl).up rfl).up rfl).up rfl).up rfl
  have r5 : RS u T T [] μ5 := ⟨⟨[], rfl, rfl⟩, ⟨rfl, rfl, rfl⟩, ⟨rfl, fun i hi => absurd hi (Nat.not_lt_zero i)⟩, h11⟩
  obtain ⟨μ6, a1, a2, a3⟩ := (read_e hu hT 60).2 d 0 0 T [] μ5 (by decide) (by decide) (by decide) r5 (by have := hT.1; rw [List.length_nil]; omega)
  have a1 : RD cr2 (d + 186) 26 [37, 0, 0] μ5 = some (bi (pl u 60 0 0 T).1, μ6) := a1
  obtain ⟨⟨pre, e, e3⟩, ⟨-, e2, -⟩, ⟨p1, p2⟩, -⟩ := a2
  rw [List.nil_append] at p1 p2
  have el := congrArg List.length e
  rw [List.length_append] at el
  have E : RD cr2 (d + 187) 24 [37, 11, (T.length : Int), (u : Int)] μ = (if bi (pl u 60 0 0 T).1 = 0 then At cr2 (d + 186) 24 1 [] [37, 0, 0, 0] μ6 else (if (μ6 37 3) = (μ6 37 2) then At cr2 (d + 186) 24 2 [(-1)] [0, 0, 0, 0] μ6 else At cr2 (d + 186) 24 1 [] [37, 0, 0, 0] μ6)) := by
    rw [M24, wf_e, wf_e, wf_e, wf_e, M55, wf_e, bnd_s]
    show bnd (RD cr2 (d + 186) 26 [37, 0, 0] μ5) _ = _
    rw [a1, bnd_s]
  have one : At cr2 (d + 186) 24 1 [] [37, 0, 0, 0] μ6 = some (((T.length - (pl u 60 0 0 T).2.1.length : Nat) : Int), μ6) := by
    rw [B24_1, B24_2, e3]
    congr 2
    omega
  refine ⟨μ6, ?_, s5.tr (SRd_w a3), p1, p2⟩
  rw [E, e3, e2]
  cases hq : (pl u 60 0 0 T).1 with
  | false => rw [if_pos (show bi false = 0 from rfl), one, if_neg (fun w => no_ft w.1)]
  | true =>
    rw [if_neg (show ¬ bi true = 0 from by decide)]
    by_cases qr : (pl u 60 0 0 T).2.1 = []
    · rw [qr, List.length_nil] at el
      rw [if_pos (by omega), B24_2, if_pos ⟨rfl, qr⟩]
    · have hr : 0 < (pl u 60 0 0 T).2.1.length := List.length_pos_iff.mpr qr
      rw [if_neg (by omega), one, if_neg (fun w => qr w.2)]
