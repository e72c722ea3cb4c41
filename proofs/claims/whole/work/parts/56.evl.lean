/-! ===== the reference reads and works out a text ===== -/
theorem no_tf {P : Prop} (h : true = false) : P := by cases h
theorem no_ft {P : Prop} (h : false = true) : P := by cases h
def SEv (c i : Nat) : Bool := Nat.beq c 71 && (Nat.ble 5 i && Nat.ble i 8)
def MR (u base : Nat) (T rest : List Int) (op : Nat) (nv : Nat → Int) (μ : amM) : Prop := (∃ pre, T = pre ++ rest ∧ μ 71 5 = (pre.length : Int)) ∧ (μ 71 4 = (base : Int) ∧ μ 71 6 = (T.length : Int) ∧ μ 71 9 = (u : Int)) ∧ μ 71 7 = -1 ∧ μ 71 8 = (op : Int) ∧ (∀ i, i < T.length → μ 72 (base + i) = T.getD i 0) ∧ ∀ k, k < 4 → μ 75 k = nv k
def FT (T rest : List Int) (μ : amM) : Prop := ∃ pre, T = pre ++ rest ∧ μ 71 7 = (pre.length : Int)
theorem FT.ge {T rest : List Int} {μ : amM} (h : FT T rest μ) : 0 ≤ μ 71 7 := by
  obtain ⟨pre, -, e⟩ := h
  rw [e]
  exact Int.natCast_nonneg _
theorem hdR {T rest : List Int} (hT : TB T) (h : ∃ pre, T = pre ++ rest) : -1 ≤ hd rest ∧ hd rest < 256 := by
  obtain ⟨pre, e⟩ := h
  cases rest with
  | nil => exact ⟨by decide, by decide⟩
  | cons c r =>
    have := hT.2 c (by rw [e]; exact List.mem_append_right _ (List.mem_cons_self ..))
    exact ⟨by show -1 ≤ c; omega, this.2⟩
theorem MR.hdR {u base op : Nat} {T rest : List Int} {nv : Nat → Int} {μ : amM} (hT : TB T) (h : MR u base T rest op nv μ) : -1 ≤ hd rest ∧ hd rest < 256 := by
  obtain ⟨⟨pre, e, -⟩, -⟩ := h
  exact _root_.Jvm.Pilot.@@N@@.hdR hT ⟨pre, e⟩
theorem hereF (d : Nat) {μ : amM} (h : 0 ≤ μ 71 7) : RD cr2 (d + 1) 159 [71] μ = some (-1, μ) := by
  rw [M159]
  by_cases q : μ 71 5 < μ 71 6
  · rw [if_pos q, if_neg (by omega), B159_1, B159_2]
  · rw [if_neg q, B159_1, B159_2]
theorem takesF (d : Nat) {μ : amM} (h : 0 ≤ μ 71 7) {c : Int} (hc : c ≠ -1) : RD cr2 (d + 2) 161 [71, c] μ = some (0, μ) := by
  rw [M161, hereF d h, bnd_s, if_neg (fun w => hc w.symm)]
theorem hereM (d : Nat) {u base op : Nat} {T rest : List Int} {nv : Nat → Int} {μ : amM} (hT : TB T) (hb : base ≤ 526) (h : MR u base T rest op nv μ) : RD cr2 (d + 1) 159 [71] μ = some (hd rest, μ) := by
  obtain ⟨⟨pre, e, e5⟩, ⟨e4, e6, -⟩, e7, -, hd', -⟩ := h
  have hl := hT.1
  rw [M159, e5, e6, e7, e4]
  cases rest with
  | nil =>
    rw [List.append_nil] at e
    rw [if_neg (by rw [e]; omega), B159_1, B159_2]
    rfl
  | cons c r =>
    have el : T.length = pre.length + (r.length + 1) := by rw [e, List.length_append, List.length_cons]
    rw [if_pos (by omega), if_pos (by decide), w32_i (by omega) (by omega), rd_p (by omega) (by omega), show ((base : Int) + (pre.length : Int)).toNat = base + pre.length by omega, hd' _ (by omega), B159_2]
    rw [e, List.getD_eq_getElem?_getD, List.getElem?_append_right (Nat.le_refl _), Nat.sub_self]
    rfl
theorem MR.next {u base op : Nat} {T rest : List Int} {nv : Nat → Int} {μ : amM} (h : MR u base T rest op nv μ) (hr : hd rest ≠ -1) : MR u base T rest.tail op nv (up μ 71 5 (μ 71 5 + 1)) ∧ μ 71 5 < (T.length : Int) ∧ 0 ≤ μ 71 5 := by
  obtain ⟨⟨pre, e, e5⟩, ⟨e4, e6, e9⟩, e7, e8, hd', hn⟩ := h
  cases rest with
  | nil => exact absurd rfl hr
  | cons c r =>
    have el : T.length = pre.length + (r.length + 1) := by rw [e, List.length_append, List.length_cons]
    refine ⟨⟨⟨pre ++ [c], by rw [e, List.append_assoc]; rfl, by rw [up_eq, e5, List.length_append]; rfl⟩, ⟨e4, e6, e9⟩, e7, e8, hd', hn⟩, by omega, by omega⟩
theorem SEv5 {μ : amM} {v : Int} : same SEv μ (up μ 71 5 v) := same.rf.up rfl
theorem takesM (d : Nat) {u base op : Nat} {T rest : List Int} {nv : Nat → Int} {μ : amM} (hT : TB T) (hb : base ≤ 526) (h : MR u base T rest op nv μ) {c : Int} (hc : c ≠ -1) : RD cr2 (d + 2) 161 [71, c] μ = if hd rest = c then some (1, up μ 71 5 (μ 71 5 + 1)) else some (0, μ) := by
  have hl := hT.1
  rw [M161, hereM d hT hb h, bnd_s]
  by_cases q : hd rest = c
  · obtain ⟨-, n2, n3⟩ := h.next (by rw [q]; exact hc)
    rw [if_pos q, if_pos q, B161_1, wf_e, w32_i (by omega) (by omega)]
  · rw [if_neg q, if_neg q]
theorem wrongM (d : Nat) {u base op : Nat} {T rest : List Int} {nv : Nat → Int} {μ : amM} (h : MR u base T rest op nv μ) : ∃ μ', RD cr2 (d + 1) 160 [71] μ = some (0, μ') ∧ FT T rest μ' ∧ same SEv μ μ' := by
  obtain ⟨⟨pre, e, e5⟩, -, e7, -, -⟩ := h
  refine ⟨up μ 71 7 (μ 71 5), ?_, ⟨pre, e, (up_eq _ _ _ _).trans e5⟩, same.rf.up rfl⟩
  rw [M160, e7, if_pos (by decide), B160_2, wf_e]
theorem wrongF (d : Nat) {μ : amM} (h : 0 ≤ μ 71 7) : RD cr2 (d + 1) 160 [71] μ = some (0, up μ 71 7 (μ 71 7)) := by
  rw [M160, if_neg (by omega), B160_1, B160_2, wf_e]
/-- working out is what it must be -/
def EvOk (u base : Nat) (T : List Int) (op : Nat) (nv : Nat → Int) (μ : amM) (r : amR) (q : Bool × List Int × List Int) : Prop := ∃ v μ', r = some (v, μ') ∧ same SEv μ μ' ∧ (q.1 = true → MR u base T q.2.1 op nv μ' ∧ ∀ st, evl nv q.2.2 st = v :: st) ∧ (q.1 = false → FT T q.2.1 μ')
theorem ev_app (nv : Nat → Int) : ∀ (a b st : List Int), evl nv (a ++ b) st = evl nv b (evl nv a st)
  | [], _, _ => rfl
  | x :: a, b, st => by
    show evl nv (a ++ b) _ = evl nv b (evl nv a _)
    exact ev_app nv a b _
theorem ev_op (nv : Nat → Int) {c : Int} (h0 : 0 ≤ c) (hc : c ≠ 33) (x y : Int) (st : List Int) : evl nv [20000 + c] (y :: x :: st) = wrk c x y :: st := by
  unfold evl evl
  rw [if_neg (by omega), if_neg (by omega), show 20000 + c - 20000 = c by omega]
theorem ev_2 {nv : Nat → Int} {p p1 : List Int} {v0 v1 c : Int} (h0 : ∀ st, evl nv p st = v0 :: st) (h1 : ∀ st, evl nv p1 st = v1 :: st) (hc0 : 0 ≤ c) (hc : c ≠ 33) (st : List Int) : evl nv (p ++ p1 ++ [20000 + c]) st = wrk c v0 v1 :: st := by
  rw [ev_app, ev_app, h0, h1, ev_op nv hc0 hc]
/-- what a level is told of the next one -/
def EvH (u base : Nat) (T : List Int) (op : Nat) (nv : Nat → Int) (D m : Nat) (g : List Int → Bool × List Int × List Int) : Prop := (∀ l, (g l).2.1.length ≤ l.length) ∧ ∀ (rest : List Int) (μ : amM), MR u base T rest op nv μ → EvOk u base T op nv μ (RD cr2 D m [71] μ) (g rest)
theorem ev_stop {u base op : Nat} {T rest p : List Int} {nv : Nat → Int} {μ : amM} {g : List Int → Bool × List Int × List Int} {lv n : Nat} {v0 : Int} {r : amR} (h : MR u base T rest op nv μ) (hp : ∀ st, evl nv p st = v0 :: st) (hr : r = some (v0, μ)) (hs : n = 0 ∨ sg lv (hd rest) = false) : EvOk u base T op nv μ r (lp g lv n rest p) := by
  have e : lp g lv n rest p = (true, rest, p) := by
    cases n with
    | zero => rfl
    | succ n =>
      unfold lp
      rw [hs.resolve_left (Nat.succ_ne_zero n), if_neg (by decide)]
  rw [e]
  exact ⟨v0, μ, hr, same.rf, fun _ => ⟨h, hp⟩, fun w => no_tf w⟩
/-- one round of a level -/
theorem ev_step {u base op D m : Nat} {T rest p : List Int} {nv : Nat → Int} {μ : amM} {g : List Int → Bool × List Int × List Int} (hg : EvH u base T op nv D m g) {lv n : Nat} {v0 : Int} (h : MR u base T rest op nv μ) (hp : ∀ st, evl nv p st = v0 :: st) (hs : sg lv (hd rest) = true) (hc : hd rest ≠ 33) (hc0 : 0 ≤ hd rest) (hl : rest.length ≤ n + 1) {r : amR} {W : Int → Int} {F : Int → amM → amR} (hr : r = bnd (RD cr2 D m [71] (up μ 71 5 (μ 71 5 + 1))) F) (hF : ∀ v1 μ1, 0 ≤ μ1 71 7 → ∃ x, F v1 μ1 = some (x, μ1)) (hN : ∀ v1 μ1 p1 rest1, MR u base T rest1 op nv μ1 → rest1.length ≤ n → (∀ st, evl nv p1 st = wrk (hd rest) v0 v1 :: st) → EvOk u base T op nv μ1 (F v1 μ1) (lp g lv n rest1 p1)) : EvOk u base T op nv μ r (lp g lv (n + 1) rest p) := by
  have hne := sg_hd hs
  have etl := tail_len hne
  obtain ⟨n1, n2, n3⟩ := h.next hne
  obtain ⟨v1, μ1, a1, a2, a3, a4⟩ := hg.2 rest.tail _ n1
  have hgl := hg.1 rest.tail
  unfold lp
  rw [if_pos hs, hr, a1, bnd_s]
  cases hb : (g rest.tail).1 with
  | false =>
    have ft := a4 hb
    obtain ⟨x, e⟩ := hF v1 μ1 ft.ge
    rw [e, if_neg (by decide)]
    exact ⟨x, μ1, rfl, SEv5.tr a2, fun w => no_ft w, fun _ => ft⟩
  | true =>
    obtain ⟨b1, b2⟩ := a3 hb
    obtain ⟨v2, μ2, c1, c2, c3, c4⟩ := hN v1 μ1 (p ++ (g rest.tail).2.2 ++ [20000 + hd rest]) (g rest.tail).2.1 b1 (by omega) (ev_2 hp b2 hc0 hc)
    rw [if_pos rfl]
    exact ⟨v2, μ2, c1, (SEv5.tr a2).tr c2, c3, c4⟩
theorem lv0_loop (d : Nat) {u base op : Nat} {T : List Int} {nv : Nat → Int} (hT : TB T) (hb : base ≤ 526) {g : List Int → Bool × List Int × List Int} (hg : EvH u base T op nv (d + 2) 164 g) : ∀ (n : Nat) (rest p : List Int) (v0 : Int) (μ : amM), rest.length ≤ n → MR u base T rest op nv μ → (∀ st, evl nv p st = v0 :: st) → EvOk u base T op nv μ (At cr2 (d + 2) 163 1 [] [71, v0, 0] μ) (lp g 0 n rest p) := by
  have stp : ∀ (rest : List Int) (v0 : Int) (μ : amM), MR u base T rest op nv μ → hd rest ≠ 124 → At cr2 (d + 2) 163 1 [] [71, v0, 0] μ = some (v0, μ) := fun rest v0 μ h q => by
    rw [B163_1, takesM d hT hb h (by decide), if_neg q, bnd_s, if_pos rfl, B163_5]
  have stf : ∀ (v0 : Int) (μ : amM), 0 ≤ μ 71 7 → At cr2 (d + 2) 163 1 [] [71, v0, 0] μ = some (v0, μ) := fun v0 μ h => by
    rw [B163_1, takesF d h (by decide), bnd_s, if_pos rfl, B163_5]
  have two : ∀ (v0 v1 : Int) (μ : amM), (if v0 = 0 then (if v1 = 0 then At cr2 (d + 2) 163 3 [] [71, 0, 0] μ else At cr2 (d + 2) 163 2 [] [71, 0, 0] μ) else At cr2 (d + 2) 163 2 [] [71, 0, 0] μ) = At cr2 (d + 2) 163 1 [] [71, wrk 124 v0 v1, 0] μ := fun v0 v1 μ => by
    show _ = At cr2 (d + 2) 163 1 [] [71, (if v0 ≠ 0 ∨ v1 ≠ 0 then 1 else 0), 0] μ
    by_cases q1 : v0 = 0
    · by_cases q2 : v1 = 0
      · rw [if_pos q1, if_pos q2, if_neg (by omega), B163_3, B163_4]
      · rw [if_pos q1, if_neg q2, if_pos (Or.inr q2), B163_2, B163_4]
    · rw [if_neg q1, if_pos (Or.inl q1), B163_2, B163_4]
  intro n
  induction n with
  | zero =>
    intro rest p v0 μ hl h hp
    have e : rest = [] := List.length_eq_zero_iff.mp (by omega)
    subst e
    exact ev_stop h hp (stp [] v0 μ h (by decide)) (Or.inl rfl)
  | succ n ih =>
    intro rest p v0 μ hl h hp
    by_cases q : hd rest = 124
    · refine ev_step hg h hp (by rw [q]; rfl) (by omega) (by omega) hl (F := fun v1 μ1 => At cr2 (d + 2) 163 1 [] [71, wrk (hd rest) v0 v1, 0] μ1) (W := fun _ => 0) ?_ (fun v1 μ1 hf => ⟨_, stf _ _ hf⟩) (fun v1 μ1 p1 rest1 h1 hl1 hp1 => ih rest1 p1 _ μ1 hl1 h1 hp1)
      rw [B163_1, takesM d hT hb h (by decide), if_pos q, bnd_s, if_neg (by decide), q]
      congr 1
      funext v1 μ1
      exact two v0 v1 μ1
    · refine ev_stop h hp (stp rest v0 μ h q) (Or.inr ?_)
      unfold sg
      exact beq_false_of_ne q
theorem lv1_loop (d : Nat) {u base op : Nat} {T : List Int} {nv : Nat → Int} (hT : TB T) (hb : base ≤ 526) {g : List Int → Bool × List Int × List Int} (hg : EvH u base T op nv (d + 2) 165 g) : ∀ (n : Nat) (rest p : List Int) (v0 : Int) (μ : amM), rest.length ≤ n → MR u base T rest op nv μ → (∀ st, evl nv p st = v0 :: st) → EvOk u base T op nv μ (At cr2 (d + 2) 164 1 [] [71, v0, 0] μ) (lp g 1 n rest p) := by
  have stp : ∀ (rest : List Int) (v0 : Int) (μ : amM), MR u base T rest op nv μ → hd rest ≠ 38 → At cr2 (d + 2) 164 1 [] [71, v0, 0] μ = some (v0, μ) := fun rest v0 μ h q => by
    rw [B164_1, takesM d hT hb h (by decide), if_neg q, bnd_s, if_pos rfl, B164_4]
  have stf : ∀ (v0 : Int) (μ : amM), 0 ≤ μ 71 7 → At cr2 (d + 2) 164 1 [] [71, v0, 0] μ = some (v0, μ) := fun v0 μ h => by
    rw [B164_1, takesF d h (by decide), bnd_s, if_pos rfl, B164_4]
  have two : ∀ (v0 v1 : Int) (μ : amM), (if v0 = 0 then At cr2 (d + 2) 164 2 [] [71, 0, 0] μ else (if v1 = 0 then At cr2 (d + 2) 164 2 [] [71, 0, 0] μ else At cr2 (d + 2) 164 3 [1] [71, 0, 0] μ)) = At cr2 (d + 2) 164 1 [] [71, wrk 38 v0 v1, 0] μ := fun v0 v1 μ => by
    show _ = At cr2 (d + 2) 164 1 [] [71, (if v0 ≠ 0 ∧ v1 ≠ 0 then 1 else 0), 0] μ
    by_cases q1 : v0 = 0
    · rw [if_pos q1, if_neg (fun w => w.1 q1), B164_2, B164_3]
    · by_cases q2 : v1 = 0
      · rw [if_neg q1, if_pos q2, if_neg (fun w => w.2 q2), B164_2, B164_3]
      · rw [if_neg q1, if_neg q2, if_pos ⟨q1, q2⟩, B164_3]
  intro n
  induction n with
  | zero =>
    intro rest p v0 μ hl h hp
    have e : rest = [] := List.length_eq_zero_iff.mp (by omega)
    subst e
    exact ev_stop h hp (stp [] v0 μ h (by decide)) (Or.inl rfl)
  | succ n ih =>
    intro rest p v0 μ hl h hp
    by_cases q : hd rest = 38
    · refine ev_step hg h hp (by rw [q]; rfl) (by omega) (by omega) hl (F := fun v1 μ1 => At cr2 (d + 2) 164 1 [] [71, wrk (hd rest) v0 v1, 0] μ1) (W := fun _ => 0) ?_ (fun v1 μ1 hf => ⟨_, stf _ _ hf⟩) (fun v1 μ1 p1 rest1 h1 hl1 hp1 => ih rest1 p1 _ μ1 hl1 h1 hp1)
      rw [B164_1, takesM d hT hb h (by decide), if_pos q, bnd_s, if_neg (by decide), q]
      congr 1
      funext v1 μ1
      exact two v0 v1 μ1
    · refine ev_stop h hp (stp rest v0 μ h q) (Or.inr ?_)
      unfold sg
      exact beq_false_of_ne q
/-- level 2: one comparison at most -/
theorem lv2_e (d : Nat) {u base op : Nat} {T : List Int} {nv : Nat → Int} (hT : TB T) (hb : base ≤ 526) {g : List Int → Bool × List Int × List Int} (hg : EvH u base T op nv (d + 2) 166 g) (rest : List Int) (μ : amM) (h : MR u base T rest op nv μ) : EvOk u base T op nv μ (RD cr2 (d + 3) 165 [71] μ) (if (g rest).1 then lp g 2 1 (g rest).2.1 (g rest).2.2 else g rest) := by
  have two : ∀ (c v0 v1 : Int) (μ : amM), c = 60 ∨ c = 61 ∨ c = 62 → (if c = 60 then (if v0 < v1 then At cr2 (d + 2) 165 4 [] [0, 0, 0, 0] μ else At cr2 (d + 2) 165 5 [] [0, 0, 0, 0] μ) else At cr2 (d + 2) 165 2 [] [0, v0, c, v1] μ) = some (wrk c v0 v1, μ) := fun c v0 v1 μ hc => by
    have yes : At cr2 (d + 2) 165 4 [] [0, 0, 0, 0] μ = some (1, μ) := by rw [B165_4, B165_6]
    have nay : At cr2 (d + 2) 165 5 [] [0, 0, 0, 0] μ = some (0, μ) := by rw [B165_5, B165_6]
    rcases hc with rfl | rfl | rfl
    · rw [if_pos rfl, yes, nay]
      show _ = some ((if v0 < v1 then 1 else 0), μ)
      by_cases q : v0 < v1
      · rw [if_pos q, if_pos q]
      · rw [if_neg q, if_neg q]
    · rw [if_neg (by decide), B165_2, if_pos rfl, yes, nay]
      show _ = some ((if v0 = v1 then 1 else 0), μ)
      by_cases q : v0 = v1
      · rw [if_pos q, if_pos q]
      · rw [if_neg q, if_neg q]
    · rw [if_neg (by decide), B165_2, if_neg (by decide), B165_3, yes, nay]
      show _ = some ((if v1 < v0 then 1 else 0), μ)
      by_cases q : v1 < v0
      · rw [if_pos q, if_pos q]
      · rw [if_neg q, if_neg q]
  obtain ⟨v0, μ1, a1, a2, a3, a4⟩ := hg.2 rest μ h
  rw [M165, a1, bnd_s]
  cases hb1 : (g rest).1 with
  | false =>
    have ft := a4 hb1
    rw [hereF _ ft.ge, bnd_s, if_neg (by decide), if_neg (by decide), if_neg (by decide), if_neg (by decide)]
    exact ⟨v0, μ1, rfl, a2, fun w => absurd w (by rw [hb1]; decide), fun _ => ft⟩
  | true =>
    obtain ⟨b1, b2⟩ := a3 hb1
    rw [hereM _ hT hb b1, bnd_s, if_pos rfl]
    have go : (hd (g rest).2.1 = 60 ∨ hd (g rest).2.1 = 61 ∨ hd (g rest).2.1 = 62) → EvOk u base T op nv μ (At cr2 (d + 2) 165 1 [] [71, v0, hd (g rest).2.1, 0] μ1) (lp g 2 1 (g rest).2.1 (g rest).2.2) := fun hc => by
      have hs : sg 2 (hd (g rest).2.1) = true := by
        rcases hc with e | e | e <;> rw [e] <;> rfl
      have hne := sg_hd hs
      have etl := tail_len hne
      obtain ⟨n1, n2, n3⟩ := b1.next hne
      have hl := hT.1
      obtain ⟨v1, μ2, c1, c2, c3, c4⟩ := hg.2 (g rest).2.1.tail _ n1
      unfold lp lp
      rw [if_pos hs, B165_1, wf_e, w32_i (by omega) (by omega), c1, bnd_s, two _ _ _ _ hc]
      cases hb2 : (g (g rest).2.1.tail).1 with
      | false =>
        rw [if_neg (by decide)]
        exact ⟨_, μ2, rfl, (a2.tr SEv5).tr c2, fun w => no_ft w, fun _ => c4 hb2⟩
      | true =>
        obtain ⟨e1, e2⟩ := c3 hb2
        rw [if_pos rfl]
        exact ⟨_, μ2, rfl, (a2.tr SEv5).tr c2, fun _ => ⟨e1, ev_2 b2 e2 (by omega) (by omega)⟩, fun w => no_tf w⟩
    by_cases q1 : hd (g rest).2.1 = 60
    · rw [if_pos q1]; exact go (Or.inl q1)
    · by_cases q2 : hd (g rest).2.1 = 61
      · rw [if_neg q1, if_pos q2]; exact go (Or.inr (Or.inl q2))
      · by_cases q3 : hd (g rest).2.1 = 62
        · rw [if_neg q1, if_neg q2, if_pos q3]; exact go (Or.inr (Or.inr q3))
        · rw [if_neg q1, if_neg q2, if_neg q3]
          obtain ⟨v2, μ2, k1, k2, k3, k4⟩ := ev_stop (g := g) (lv := 2) (n := 1) b1 b2 (r := some (v0, μ1)) rfl (Or.inr (by
            unfold sg
            simp only [beq_false_of_ne q1, beq_false_of_ne q2, beq_false_of_ne q3]
            rfl))
          exact ⟨v2, μ2, k1, a2.tr k2, k3, k4⟩
theorem lv3_loop (d : Nat) {u base op : Nat} {T : List Int} {nv : Nat → Int} (hT : TB T) (hb : base ≤ 526) {g : List Int → Bool × List Int × List Int} (hg : EvH u base T op nv (d + 2) 167 g) : ∀ (n : Nat) (rest p : List Int) (v0 : Int) (μ : amM), rest.length ≤ n → MR u base T rest op nv μ → (∀ st, evl nv p st = v0 :: st) → EvOk u base T op nv μ (At cr2 (d + 2) 166 1 [] [71, v0, 0, 0] μ) (lp g 3 n rest p) := by
  have stp : ∀ (rest : List Int) (v0 : Int) (μ : amM), MR u base T rest op nv μ → hd rest ≠ 43 → hd rest ≠ 45 → At cr2 (d + 2) 166 1 [] [71, v0, 0, 0] μ = some (v0, μ) := fun rest v0 μ h q q2 => by
    rw [B166_1, hereM _ hT hb h, bnd_s, if_neg q, hereM _ hT hb h, bnd_s, if_neg q2, B166_5]
  have stf : ∀ (v0 : Int) (μ : amM), 0 ≤ μ 71 7 → At cr2 (d + 2) 166 1 [] [71, v0, 0, 0] μ = some (v0, μ) := fun v0 μ h => by
    rw [B166_1, hereF _ h, bnd_s, if_neg (by decide), hereF _ h, bnd_s, if_neg (by decide), B166_5]
  have two : ∀ (c v0 v1 : Int) (μ : amM), c = 43 ∨ c = 45 → (if c = 43 then At cr2 (d + 2) 166 4 [w32 (v0 + v1)] [71, 0, 0, 0] μ else At cr2 (d + 2) 166 3 [] [71, v0, 0, v1] μ) = At cr2 (d + 2) 166 1 [] [71, wrk c v0 v1, 0, 0] μ := fun c v0 v1 μ hc => by
    rcases hc with rfl | rfl
    · rw [if_pos rfl, B166_4]; rfl
    · rw [if_neg (by decide), B166_3, B166_4]; rfl
  intro n
  induction n with
  | zero =>
    intro rest p v0 μ hl h hp
    have e : rest = [] := List.length_eq_zero_iff.mp (by omega)
    subst e
    exact ev_stop h hp (stp [] v0 μ h (by decide) (by decide)) (Or.inl rfl)
  | succ n ih =>
    intro rest p v0 μ hl h hp
    have hlT := hT.1
    by_cases q : hd rest = 43 ∨ hd rest = 45
    · have hs : sg 3 (hd rest) = true := by rcases q with e | e <;> rw [e] <;> rfl
      obtain ⟨n1, n2, n3⟩ := h.next (sg_hd hs)
      refine ev_step hg h hp hs (by omega) (by omega) hl (F := fun v1 μ1 => At cr2 (d + 2) 166 1 [] [71, wrk (hd rest) v0 v1, 0, 0] μ1) (W := fun _ => 0) ?_ (fun v1 μ1 hf => ⟨_, stf _ _ hf⟩) (fun v1 μ1 p1 rest1 h1 hl1 hp1 => ih rest1 p1 _ μ1 hl1 h1 hp1)
      have e2 : At cr2 (d + 2) 166 1 [] [71, v0, 0, 0] μ = At cr2 (d + 2) 166 2 [] [71, v0, 0, 0] μ := by
        rw [B166_1, hereM _ hT hb h, bnd_s]
        rcases q with e | e
        · rw [if_pos e]
        · rw [if_neg (by omega), hereM _ hT hb h, bnd_s, if_pos e]
      rw [e2, B166_2, hereM _ hT hb h, bnd_s, wf_e, w32_i (by omega) (by omega)]
      congr 1
      funext v1 μ1
      exact two _ v0 v1 μ1 q
    · refine ev_stop h hp (stp rest v0 μ h (fun w => q (Or.inl w)) (fun w => q (Or.inr w))) (Or.inr ?_)
      unfold sg
      simp only [beq_false_of_ne (fun w => q (Or.inl w)), beq_false_of_ne (fun w => q (Or.inr w))]
      rfl
theorem lv4_loop (d : Nat) {u base op : Nat} {T : List Int} {nv : Nat → Int} (hT : TB T) (hb : base ≤ 526) {g : List Int → Bool × List Int × List Int} (hg : EvH u base T op nv (d + 2) 168 g) : ∀ (n : Nat) (rest p : List Int) (v0 : Int) (μ : amM), rest.length ≤ n → MR u base T rest op nv μ → (∀ st, evl nv p st = v0 :: st) → EvOk u base T op nv μ (At cr2 (d + 2) 167 1 [] [71, v0, 0, 0] μ) (lp g 4 n rest p) := by
  have stp : ∀ (rest : List Int) (v0 : Int) (μ : amM), MR u base T rest op nv μ → hd rest ≠ 42 → hd rest ≠ 47 → hd rest ≠ 37 → At cr2 (d + 2) 167 1 [] [71, v0, 0, 0] μ = some (v0, μ) := fun rest v0 μ h q q2 q3 => by
    rw [B167_1, hereM _ hT hb h, bnd_s, if_neg q, hereM _ hT hb h, bnd_s, if_neg q2, hereM _ hT hb h, bnd_s, if_neg q3, B167_7]
  have stf : ∀ (v0 : Int) (μ : amM), 0 ≤ μ 71 7 → At cr2 (d + 2) 167 1 [] [71, v0, 0, 0] μ = some (v0, μ) := fun v0 μ h => by
    rw [B167_1, hereF _ h, bnd_s, if_neg (by decide), hereF _ h, bnd_s, if_neg (by decide), hereF _ h, bnd_s, if_neg (by decide), B167_7]
  have two : ∀ (c v0 v1 : Int) (μ : amM), c = 42 ∨ c = 47 ∨ c = 37 → (if c = 42 then At cr2 (d + 2) 167 6 [w32 (v0 * v1)] [71, 0, 0, 0] μ else At cr2 (d + 2) 167 3 [] [71, v0, c, v1] μ) = At cr2 (d + 2) 167 1 [] [71, wrk c v0 v1, 0, 0] μ := fun c v0 v1 μ hc => by
    rcases hc with rfl | rfl | rfl
    · rw [if_pos rfl, B167_6]; rfl
    · rw [if_neg (by decide), B167_3]
      show _ = At cr2 (d + 2) 167 1 [] [71, (if v1 = 0 then 0 else w32 (v0.tdiv v1)), 0, 0] μ
      by_cases q : v1 = 0
      · rw [if_pos q, if_pos q, B167_6]
      · rw [if_neg q, if_neg q, B167_4, if_pos rfl, if_neg q, B167_6]
    · rw [if_neg (by decide), B167_3]
      show _ = At cr2 (d + 2) 167 1 [] [71, (if v1 = 0 then 0 else v0.tmod v1), 0, 0] μ
      by_cases q : v1 = 0
      · rw [if_pos q, if_pos q, B167_6]
      · rw [if_neg q, if_neg q, B167_4, if_neg (by decide), B167_5, if_neg q, B167_6]
  intro n
  induction n with
  | zero =>
    intro rest p v0 μ hl h hp
    have e : rest = [] := List.length_eq_zero_iff.mp (by omega)
    subst e
    exact ev_stop h hp (stp [] v0 μ h (by decide) (by decide) (by decide)) (Or.inl rfl)
  | succ n ih =>
    intro rest p v0 μ hl h hp
    have hlT := hT.1
    by_cases q : hd rest = 42 ∨ hd rest = 47 ∨ hd rest = 37
    · have hs : sg 4 (hd rest) = true := by rcases q with e | e | e <;> rw [e] <;> rfl
      obtain ⟨n1, n2, n3⟩ := h.next (sg_hd hs)
      refine ev_step hg h hp hs (by omega) (by omega) hl (F := fun v1 μ1 => At cr2 (d + 2) 167 1 [] [71, wrk (hd rest) v0 v1, 0, 0] μ1) (W := fun _ => 0) ?_ (fun v1 μ1 hf => ⟨_, stf _ _ hf⟩) (fun v1 μ1 p1 rest1 h1 hl1 hp1 => ih rest1 p1 _ μ1 hl1 h1 hp1)
      have e2 : At cr2 (d + 2) 167 1 [] [71, v0, 0, 0] μ = At cr2 (d + 2) 167 2 [] [71, v0, 0, 0] μ := by
        rw [B167_1, hereM _ hT hb h, bnd_s]
        rcases q with e | e | e
        · rw [if_pos e]
        · rw [if_neg (by omega), hereM _ hT hb h, bnd_s, if_pos e]
        · rw [if_neg (by omega), hereM _ hT hb h, bnd_s, if_neg (by omega), hereM _ hT hb h, bnd_s, if_pos e]
      rw [e2, B167_2, hereM _ hT hb h, bnd_s, wf_e, w32_i (by omega) (by omega)]
      congr 1
      funext v1 μ1
      exact two _ v0 v1 μ1 q
    · refine ev_stop h hp (stp rest v0 μ h (fun w => q (Or.inl w)) (fun w => q (Or.inr (Or.inl w))) (fun w => q (Or.inr (Or.inr w)))) (Or.inr ?_)
      unfold sg
      simp only [beq_false_of_ne (fun w => q (Or.inl w)), beq_false_of_ne (fun w => q (Or.inr (Or.inl w))), beq_false_of_ne (fun w => q (Or.inr (Or.inr w)))]
      rfl
/-- a level out of its loop -/
theorem lv_ev {u base op D m : Nat} {T : List Int} {nv : Nat → Int} {g : List Int → Bool × List Int × List Int} (hg : EvH u base T op nv D m g) {lv n : Nat} (hn : T.length ≤ n) {r : amR} {F : Int → amM → amR} {rest : List Int} {μ : amM} (h : MR u base T rest op nv μ) (hr : r = bnd (RD cr2 D m [71] μ) F) (hF : ∀ v1 μ1, 0 ≤ μ1 71 7 → ∃ x, F v1 μ1 = some (x, μ1)) (hL : ∀ (rest p : List Int) (v0 : Int) (μ : amM), rest.length ≤ n → MR u base T rest op nv μ → (∀ st, evl nv p st = v0 :: st) → EvOk u base T op nv μ (F v0 μ) (lp g lv n rest p)) : EvOk u base T op nv μ r (if (g rest).1 then lp g lv n (g rest).2.1 (g rest).2.2 else g rest) := by
  obtain ⟨v0, μ1, a1, a2, a3, a4⟩ := hg.2 rest μ h
  rw [hr, a1, bnd_s]
  cases hb : (g rest).1 with
  | false =>
    have ft := a4 hb
    obtain ⟨x, e⟩ := hF v0 μ1 ft.ge
    rw [e, if_neg (by decide)]
    exact ⟨x, μ1, rfl, a2, fun w => absurd w (by rw [hb]; decide), fun _ => ft⟩
  | true =>
    obtain ⟨b1, b2⟩ := a3 hb
    obtain ⟨⟨pre, e, -⟩, -⟩ := id b1
    obtain ⟨v2, μ2, c1, c2, c3, c4⟩ := hL _ _ v0 μ1 (by
      have : T.length = pre.length + (g rest).2.1.length := by
        have := congrArg List.length e
        rw [List.length_append] at this
        exact this
      omega) b1 b2
    rw [if_pos rfl]
    exact ⟨v2, μ2, c1, a2.tr c2, c3, c4⟩
