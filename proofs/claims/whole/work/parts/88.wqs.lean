/-! ===== the wrong pairs as the class lists them ===== -/
theorem prs_lt {t : Tn} (ok : t.Ok) {p : Nat × Nat} (h : p ∈ t.prs) : p.1 < p.2 ∧ p.2 < t.lots ∧ p.2 ∈ t.nb p.1 := by
  rw [ok.ord, List.mem_flatMap] at h
  obtain ⟨l, hl, h⟩ := h
  rw [List.mem_map] at h
  obtain ⟨o, ho, rfl⟩ := h
  rw [List.mem_filter] at ho
  have hl := List.mem_range.mp hl
  exact ⟨of_decide_eq_true ho.2, ((ok.nbs hl).2 o ho.1).1, ho.1⟩
def orw (p : Nat × Nat) : Nat × Nat := if p.1 < p.2 then p else (p.2, p.1)
theorem orw_or (p : Nat × Nat) : orw p = p ∨ orw p = (p.2, p.1) := by
  unfold orw
  by_cases q : p.1 < p.2
  · rw [if_pos q]; exact Or.inl rfl
  · rw [if_neg q]; exact Or.inr rfl
def QW (t : Tn) (Q : List (Nat × Nat)) : Prop := (Q.map orw).Perm t.wl
theorem QW.len {t : Tn} {Q : List (Nat × Nat)} (h : QW t Q) : Q.length = t.wl.length := by
  have := h.length_eq
  rw [List.length_map] at this
  exact this
theorem wl_mem {t : Tn} {p : Nat × Nat} : p ∈ t.wl ↔ p ∈ t.prs ∧ t.wrong p.1 p.2 = true := List.mem_filter
theorem QW.mem {t : Tn} (ok : t.Ok) {Q : List (Nat × Nat)} (h : QW t Q) {p : Nat × Nat} (hp : p ∈ Q) : p.1 < t.lots ∧ p.2 < t.lots ∧ p.1 ≠ p.2 ∧ t.wrong p.1 p.2 = true ∧ orw p ∈ t.prs := by
  have hm := wl_mem.mp (h.mem_iff.mp (List.mem_map.mpr ⟨p, hp, rfl⟩))
  have hl := prs_lt ok hm.1
  rcases orw_or p with e | e
  · rw [e] at hm hl
    exact ⟨by omega, by omega, by omega, hm.2, by rw [e]; exact hm.1⟩
  · have h1 := hm.1
    have h2 := hm.2
    rw [e] at hl h2
    exact ⟨hl.2.1, by have := hl.1; have := hl.2.1; omega, by have := hl.1; omega, by rw [Tn.wrong_comm]; exact h2, h1⟩
theorem wrong_b {t : Tn} {a b : Nat} (h : t.wrong a b = true) : t.bound a = true ∧ t.bound b = true ∧ t.go (t.code a) (t.code b) = false := by
  unfold Tn.wrong at h
  rw [Bool.and_eq_true, Bool.and_eq_true] at h
  refine ⟨h.1.1, h.1.2, ?_⟩
  cases q : t.go (t.code a) (t.code b) with
  | false => rfl
  | true =>
    have := h.2
    rw [q] at this
    cases this
theorem tg_go {t : Tn} {L : Nat → Bool} {c : Nat → Int} (h : tg t L c) {p : Nat × Nat} (hp : orw p ∈ t.prs) (h1 : t.bound p.1 = true) (h2 : t.bound p.2 = true) : t.go (c p.1) (c p.2) = true := by
  rcases orw_or p with e | e
  · rw [e] at hp
    exact h.2 p hp h1 h2
  · rw [e] at hp
    rw [go_comm]
    exact h.2 (p.2, p.1) hp h2 h1
theorem hd_any {t : Tn} {c : Nat → Int} {a b : Nat} (h1 : t.go (t.code a) (t.code b) = false) (h2 : t.go (c a) (c b) = true) : 1 ≤ hd4 t.code c a ∨ 1 ≤ hd4 t.code c b := by
  have n := alk_near t.code c a b
  have a0 := hd_0 t.code c a
  have b0 := hd_0 t.code c b
  unfold Tn.go at h1 h2
  rw [Bool.and_eq_true] at h2
  have g1 := of_decide_eq_true h2.1
  have g2 := of_decide_eq_true h2.2
  by_cases q : t.least ≤ alk (t.code a) (t.code b)
  · rw [decide_eq_true q, Bool.true_and] at h1
    have := of_decide_eq_false h1
    omega
  · omega
theorem sm_le4 {F G : Nat → Int} : ∀ n, (∀ i, i < n → F i ≤ 4 * G i) → sm n F ≤ 4 * sm n G
  | 0, _ => Int.le_refl _
  | n + 1, h => by
    have a := sm_le4 n (fun i hi => h i (by omega))
    have b := h n (by omega)
    show sm n F + F n ≤ 4 * (sm n G + G n)
    omega
theorem wl_need {t : Tn} (ok : t.Ok) {L : Nat → Bool} {c : Nat → Int} (h : tg t L c) : (t.wl.length : Int) ≤ 4 * df (fun _ => 1) t.code c (4 * t.lots) := by
  rw [df_hd]
  refine Int.le_trans (touch_le (f := t.code) (g := c) (n := t.lots) t.wl (fun p hp => ?_)) (sm_le4 _ (fun l hl => ?_))
  · have hm := wl_mem.mp hp
    have hl := prs_lt ok hm.1
    have w := wrong_b hm.2
    exact ⟨by omega, hl.2.1, by omega, hd_any w.2.2 (h.2 p hm.1 w.1 w.2.1)⟩
  · have h0 := hd_0 t.code c l
    by_cases q : 1 ≤ hd4 t.code c l
    · rw [if_pos q]
      have o1 := oth_filter (fun p => t.wrong p.1 p.2) l t.prs
      have o2 := (ok.oth hl).length_eq
      have o3 := (ok.nbs hl).1
      have o4 : (oth t.wl l).length ≤ (oth t.prs l).length := o1
      omega
    · rw [if_neg q]; omega
theorem gaps_need {t : Tn} (ok : t.Ok) {L : Nat → Bool} {c : Nat → Int} (h : tg t L c) {Q : List (Nat × Nat)} (hQ : QW t Q) : t.gaps Q (fun _ => false) ≤ df (fun _ => 1) t.code c (4 * t.lots) := by
  rw [df_hd]
  exact gaps_le Q (fun _ => false) (fun p hp => by
    have m := hQ.mem ok hp
    have w := wrong_b m.2.2.2.1
    exact ⟨m.1, m.2.1, m.2.2.1, tg_go h m.2.2.2.2 w.1 w.2.1⟩)
/-- the list behind a change -/
def tch (l : Nat) (p : Nat × Nat) : Bool := p.1 == l || p.2 == l
def nxt (t : Tn) (l : Nat) (Q : List (Nat × Nat)) : List (Nat × Nat) := Q.filter (fun p => !tch l p) ++ ((t.nb l).filter (fun o => t.wrong l o)).map (fun o => (l, o))
theorem tch_orw (l : Nat) (p : Nat × Nat) : tch l (orw p) = tch l p := by
  rcases orw_or p with e | e
  · rw [e]
  · rw [e]
    unfold tch
    rw [Bool.or_comm]
theorem oth_map {l : Nat} : ∀ Q : List (Nat × Nat), (∀ p ∈ Q, p.1 < p.2) → (oth Q l).map (fun o => orw (l, o)) = Q.filter (tch l)
  | [], _ => rfl
  | p :: Q, h => by
    have hp := h p (List.mem_cons_self ..)
    have ih := oth_map (l := l) Q (fun q hq => h q (List.mem_cons_of_mem _ hq))
    rw [oth_cons]
    by_cases q1 : p.1 = l
    · rw [if_pos q1, List.filter_cons_of_pos (by unfold tch; rw [q1, beq_self_eq_true]; rfl), List.map_cons, ih, show orw (l, p.2) = p from by
        unfold orw
        rw [if_pos (show l < p.2 by omega), ← q1]]
    · rw [if_neg q1]
      by_cases q2 : p.2 = l
      · rw [if_pos q2, List.filter_cons_of_pos (by unfold tch; rw [q2, beq_self_eq_true, Bool.or_true]), List.map_cons, ih, show orw (l, p.1) = p from by
          unfold orw
          rw [if_neg (show ¬ l < p.1 by omega), ← q2]]
      · rw [if_neg q2, List.filter_cons_of_neg (by unfold tch; rw [beq_false_of_ne q1, beq_false_of_ne q2]; decide), ih]
theorem filter_or {α : Type} (P T : α → Bool) : ∀ Q : List α, ((Q.filter (fun x => P x && !T x)) ++ (Q.filter (fun x => P x && T x))).Perm (Q.filter P)
  | [] => List.Perm.refl _
  | x :: Q => by
    have ih := filter_or P T Q
    cases p : P x with
    | false =>
      rw [List.filter_cons_of_neg (p := fun x => P x && !T x) (by rw [p, Bool.false_and]; decide), List.filter_cons_of_neg (p := fun x => P x && T x) (by rw [p, Bool.false_and]; decide), List.filter_cons_of_neg (p := P) (by rw [p]; decide)]
      exact ih
    | true =>
      cases q : T x with
      | false =>
        rw [List.filter_cons_of_pos (p := fun x => P x && !T x) (by rw [p, q]; rfl), List.filter_cons_of_neg (p := fun x => P x && T x) (by rw [p, q]; decide), List.filter_cons_of_pos p]
        exact ih.cons x
      | true =>
        rw [List.filter_cons_of_neg (p := fun x => P x && !T x) (by rw [p, q]; decide), List.filter_cons_of_pos (p := fun x => P x && T x) (by rw [p, q]; rfl), List.filter_cons_of_pos p]
        exact List.perm_middle.trans (ih.cons x)
theorem turn_far {t : Tn} {l k : Nat} {s : Int} {p : Nat × Nat} (h : tch l p = false) : (t.turn l k s).wrong p.1 p.2 = t.wrong p.1 p.2 := by
  unfold tch at h
  rw [Bool.or_eq_false_iff] at h
  have h1 : p.1 ≠ l := ne_of_beq_false h.1
  have h2 : p.2 ≠ l := ne_of_beq_false h.2
  unfold Tn.wrong
  rw [turn_bound, turn_bound]
  show (_ && _ && !t.go ((t.cod l _).code p.1) ((t.cod l _).code p.2)) = _
  rw [cod_code_ne _ _ h1, cod_code_ne _ _ h2]
theorem QW.next {t : Tn} (ok : t.Ok) {l k : Nat} (hl : l < t.lots) {s : Int} {Q : List (Nat × Nat)} (h : QW t Q) : QW (t.turn l k s) (nxt (t.turn l k s) l Q) := by
  unfold QW nxt
  rw [List.map_append, List.map_map]
  have e1 : (Q.filter (fun p => !tch l p)).map orw = (Q.map orw).filter (fun p => !tch l p) := by
    rw [List.filter_map]
    congr 1
    refine List.filter_congr (fun p _ => ?_)
    show _ = !tch l (orw p)
    rw [tch_orw]
  have p1 : ((Q.map orw).filter (fun p => !tch l p)).Perm (t.prs.filter (fun p => (t.turn l k s).wrong p.1 p.2 && !tch l p)) := by
    refine (h.filter _).trans ?_
    unfold Tn.wl
    rw [List.filter_filter]
    refine List.Perm.of_eq (List.filter_congr (fun p _ => ?_))
    cases q : tch l p with
    | true => rw [Bool.not_true, Bool.false_and, Bool.and_false]
    | false => rw [Bool.not_false, Bool.true_and, Bool.and_true, turn_far q]
  have e2 : (((t.turn l k s).nb l).filter (fun o => (t.turn l k s).wrong l o)).map (orw ∘ (fun o => (l, o))) = (((t.nb l).filter (fun o => (t.turn l k s).wrong l o))).map (fun o => orw (l, o)) := rfl
  have p2 : ((((t.nb l).filter (fun o => (t.turn l k s).wrong l o))).map (fun o => orw (l, o))).Perm (t.prs.filter (fun p => (t.turn l k s).wrong p.1 p.2 && tch l p)) := by
    refine (((ok.oth hl).symm.filter _).map _).trans ?_
    have e3 : ((oth t.prs l).filter (fun o => (t.turn l k s).wrong l o)).map (fun o => orw (l, o)) = ((oth t.prs l).map (fun o => orw (l, o))).filter (fun p => (t.turn l k s).wrong p.1 p.2) := by
      rw [List.filter_map]
      congr 1
      refine List.filter_congr (fun o _ => ?_)
      show _ = (t.turn l k s).wrong (orw (l, o)).1 (orw (l, o)).2
      rcases orw_or (l, o) with e | e
      · rw [e]
      · rw [e, Tn.wrong_comm]
    rw [e3, oth_map t.prs (fun p hp => (prs_lt ok hp).1), List.filter_filter]
  rw [e1, e2]
  exact (p1.append p2).trans (filter_or (fun p => (t.turn l k s).wrong p.1 p.2) (tch l) t.prs)
