theorem mName_e (d : Nat) {u : Nat} (hu : u < 2) {μ : amM} (h9 : μ 71 9 = (u : Int)) (c : Int) : RD cr2 (d + 1) 162 [71, c] μ = some (nmo u c, μ) := by
  rw [M162, h9]
  unfold nmo
  match u, hu with
  | 0, _ =>
    rw [if_pos (by decide), if_pos (by decide), B162_6]
    by_cases q : c = 107
    · rw [if_pos q, if_pos q, B162_9]
    · rw [if_neg q, if_neg q, B162_7]
      by_cases q2 : c = 109
      · rw [if_pos q2, if_pos q2, B162_9]
      · rw [if_neg q2, if_neg q2, B162_8, B162_9]
  | 1, _ =>
    rw [if_neg (show ¬ ((1 : Nat) : Int) = 0 by decide), if_neg (show ¬ (1 : Nat) = 0 by decide)]
    by_cases q : c = 99
    · rw [if_pos q, if_pos q, B162_5]
    · rw [if_neg q, if_neg q, B162_1]
      by_cases q2 : c = 114
      · rw [if_pos q2, if_pos q2, B162_5]
      · rw [if_neg q2, if_neg q2, B162_2]
        by_cases q3 : c = 100
        · rw [if_pos q3, if_pos q3, B162_5]
        · rw [if_neg q3, if_neg q3, B162_3]
          by_cases q4 : c = 118
          · rw [if_pos q4, if_pos q4, B162_5]
          · rw [if_neg q4, if_neg q4, B162_4, B162_5]
theorem dl_loop (d : Nat) {u base op : Nat} {T : List Int} {nv : Nat → Int} (hT : TB T) (hb : base ≤ 526) : ∀ (k i : Nat) (v B : Int) (rest : List Int) (μ : amM), i + k = 4 → MR u base T rest op nv μ → 0 ≤ v → v < B → 10 * B ≤ 100000 ∧ (k = 4 → B ≤ 1) ∧ (k = 3 → B ≤ 10) ∧ (k = 2 → B ≤ 100) ∧ (k = 1 → B ≤ 1000) → ∃ (μ' : amM) (cnt : Nat), At cr2 (d + 2) 168 11 [] [71, 0, 0, v, (i : Int)] μ = At cr2 (d + 2) 168 12 [] [71, 0, 0, (rdn k v rest).1, (cnt : Int)] μ' ∧ MR u base T (rdn k v rest).2 op nv μ' ∧ same SEv μ μ' ∧ (i ≤ cnt ∧ (k ≠ 0 → 48 ≤ hd rest ∧ hd rest ≤ 57 → i + 1 ≤ cnt)) ∧ (rdn k v rest).1 < 10000
  | 0, i, v, B, rest, μ, hi, h, h0, h1, hB => by
    rw [B168_11, if_neg (by omega)]
    exact ⟨μ, i, rfl, h, same.rf, ⟨Nat.le_refl _, fun w => absurd rfl w⟩, by show v < 10000; omega⟩
  | k + 1, i, v, B, rest, μ, hi, h, h0, h1, hB => by
    have hB2 : B ≤ 1000 := by
      rcases (show k = 0 ∨ k = 1 ∨ k = 2 ∨ k = 3 by omega) with e | e | e | e
      · exact hB.2.2.2.2 (by omega)
      · have := hB.2.2.2.1 (by omega); omega
      · have := hB.2.2.1 (by omega); omega
      · have := hB.2.1 (by omega); omega
    rw [B168_11, if_pos (by omega), hereM _ hT hb h, bnd_s, in_e, bnd_s, ifb]
    cases rest with
    | nil =>
      rw [show (decide ((48 : Int) ≤ hd []) && decide (hd [] ≤ 57)) = false from by decide, cond_false]
      exact ⟨μ, i, rfl, h, same.rf, ⟨Nat.le_refl _, fun _ w => absurd w (by decide)⟩, by show v < 10000; omega⟩
    | cons c r =>
      have hR := h.hdR hT
      have hR : -1 ≤ c ∧ c < 256 := hR
      have hl := hT.1
      unfold rdn
      by_cases q : 48 ≤ c ∧ c ≤ 57
      · obtain ⟨n1, n2, n3⟩ := h.next (rest := c :: r) (show c ≠ -1 by omega)
        rw [show (decide ((48 : Int) ≤ hd (c :: r)) && decide (hd (c :: r) ≤ 57)) = true from by
          show (decide ((48 : Int) ≤ c) && decide (c ≤ 57)) = true
          rw [decide_eq_true q.1, decide_eq_true q.2]; rfl, cond_true, if_pos q, hereM _ hT hb h, bnd_s, wf_e, w32_i (x := μ 71 5 + 1) (by omega) (by omega)]
        show ∃ (μ' : amM) (cnt : Nat), At cr2 (d + 2) 168 11 [] [71, 0, 0, w32 (w32 (w32 (10 * v) + c) - 48), w32 ((i : Int) + 1)] (up μ 71 5 (μ 71 5 + 1)) = _ ∧ _
        rw [w32_i (x := 10 * v) (by omega) (by omega), w32_i (x := 10 * v + c) (by omega) (by omega), w32_i (x := 10 * v + c - 48) (by omega) (by omega), w32_i (x := (i : Int) + 1) (by omega) (by omega)]
        obtain ⟨μ2, cnt, f1, f2, f3, f4, f5⟩ := dl_loop d hT hb k (i + 1) (10 * v + c - 48) (10 * B) r _ (by omega) n1 (by omega) (by omega) (by
          refine ⟨by omega, fun e => by omega, fun e => ?_, fun e => ?_, fun e => ?_⟩
          · have := hB.2.1 (by omega); omega
          · have := hB.2.2.1 (by omega); omega
          · have := hB.2.2.2.1 (by omega); omega)
        exact ⟨μ2, cnt, f1, f2, SEv5.tr f3, ⟨by omega, fun _ _ => f4.1⟩, f5⟩
      · rw [show (decide ((48 : Int) ≤ hd (c :: r)) && decide (hd (c :: r) ≤ 57)) = false from by
          show (decide ((48 : Int) ≤ c) && decide (c ≤ 57)) = false
          rw [← Bool.decide_and]
          exact decide_eq_false q, cond_false, if_neg q]
        exact ⟨μ, i, rfl, h, same.rf, ⟨Nat.le_refl _, fun _ w => absurd w q⟩, by show v < 10000; omega⟩
theorem rdn_ge : ∀ (k : Nat) (v : Int) (l : List Int), 0 ≤ v → 0 ≤ (rdn k v l).1
  | 0, _, _, h => h
  | _ + 1, _, [], h => h
  | k + 1, v, c :: l, h => by
    unfold rdn
    by_cases q : 48 ≤ c ∧ c ≤ 57
    · rw [if_pos q]; exact rdn_ge k _ l (by omega)
    · rw [if_neg q]; exact h
theorem MR.op8 {u base op : Nat} {T rest : List Int} {nv : Nat → Int} {μ : amM} (h : MR u base T rest op nv μ) (op2 : Nat) : MR u base T rest op2 nv (up μ 71 8 (op2 : Int)) := ⟨h.1, h.2.1, h.2.2.1, up_eq _ _ _ _, h.2.2.2.2⟩
theorem unit_e (D : Nat) {u base op f : Nat} (hu : u < 2) {T : List Int} {nv : Nat → Int} (hT : TB T) (hb : base ≤ 526) (ho : op ≤ 5) (hA : op < 5 → EvH u base T (op + 1) nv (D + 2) 168 (pl u f 5 (op + 1))) (hB : op < 5 → EvH u base T (op + 1) nv (D + 2) 163 (pl u f 0 (op + 1))) (rest : List Int) (μ : amM) (h : MR u base T rest op nv μ) : EvOk u base T op nv μ (RD cr2 (D + 3) 168 [71] μ) (pl u (f + 1) 5 op rest) := by
  have hR := h.hdR hT
  have hl := hT.1
  obtain ⟨μw, w1, w2, w3⟩ := wrongM (D + 1) h
  have bad : EvOk u base T op nv μ (some (0, μw)) (false, rest, []) := ⟨0, μw, rfl, w3, fun w => no_ft w, fun _ => w2⟩
  unfold pl
  rw [M168, hereM _ hT hb h, bnd_s, if_pos (Nat.le_refl 5)]
  by_cases q33 : hd rest = 33 ∨ hd rest = 40
  · have hq1 : ¬ (48 ≤ hd rest ∧ hd rest ≤ 57) := by omega
    have hq2 : nmo u (hd rest) = -1 := by
      unfold nmo
      rcases q33 with e | e <;> rw [e] <;> (split <;> rfl)
    have hne : hd rest ≠ -1 := by omega
    have e1 : (if hd rest = 33 then At cr2 (D + 2) 168 1 [] [71, hd rest, 0, 0, 0] μ else if hd rest = 40 then At cr2 (D + 2) 168 1 [] [71, hd rest, 0, 0, 0] μ else At cr2 (D + 2) 168 9 [] [71, hd rest, 0, 0, 0] μ) = At cr2 (D + 2) 168 1 [] [71, hd rest, 0, 0, 0] μ := by
      by_cases e : hd rest = 33
      · rw [if_pos e]
      · rw [if_neg e, if_pos (q33.resolve_left e)]
    rw [e1, if_neg hq1, if_neg (fun w => w hq2), B168_1, h.2.2.2.1]
    by_cases q5 : op = 5
    · rw [if_pos (by omega), if_pos (Or.inr (by omega)), w1, bnd_s]
      exact bad
    · obtain ⟨n1, n2, n3⟩ := h.next hne
      have hop : op < 5 := by omega
      have m1 : MR u base T rest.tail (op + 1) nv (up (up μ 71 8 ((op : Int) + 1)) 71 5 (μ 71 5 + 1)) := by
        obtain ⟨x1, x2, x3⟩ := (h.op8 (op + 1)).next hne
        exact x1
      have s1 : same SEv μ (up (up μ 71 8 ((op : Int) + 1)) 71 5 (μ 71 5 + 1)) := (same.rf.up rfl).up rfl
      have e5 : up μ 71 8 ((op : Int) + 1) 71 5 = μ 71 5 := rfl
      rw [if_neg (by omega), if_neg (fun w => by rcases w with w | w; exact q33.elim w.1 w.2; omega), B168_2, h.2.2.2.1, w32_i (x := (op : Int) + 1) (by omega) (by omega), wf_e, wf_e, e5, w32_i (by omega) (by omega)]
      by_cases q40 : hd rest = 40
      · obtain ⟨v1, μ1, a1, a2, a3, a4⟩ := (hB hop).2 rest.tail _ m1
        rw [if_pos q40, if_neg (show ¬ hd rest = 33 by omega), a1, bnd_s, B168_4, if_pos q40]
        cases hb1 : (pl u f 0 (op + 1) rest.tail).1 with
        | false =>
          have ft := a4 hb1
          rw [takesF _ ft.ge (by decide), bnd_s, if_pos rfl, wrongF _ ft.ge, bnd_s, if_neg (fun w => no_ft w.1)]
          refine ⟨0, _, rfl, (s1.tr a2).up rfl, fun w => no_ft w, fun _ => ?_⟩
          obtain ⟨pre, e, e7⟩ := ft
          exact ⟨pre, e, (up_eq _ _ _ _).trans e7⟩
        | true =>
          obtain ⟨b1, b2⟩ := a3 hb1
          rw [takesM _ hT hb b1 (by decide)]
          by_cases q41 : hd (pl u f 0 (op + 1) rest.tail).2.1 = 41
          · obtain ⟨k1, k2, k3⟩ := b1.next (by rw [q41]; decide)
            have k8 : up μ1 71 5 (μ1 71 5 + 1) 71 8 = ((op + 1 : Nat) : Int) := k1.2.2.2.1
            rw [if_pos q41, if_pos ⟨rfl, q41⟩, bnd_s, if_neg (by decide), B168_5, wf_e, k8, w32_i (by omega) (by omega), if_pos q40, B168_8, show ((op + 1 : Nat) : Int) - 1 = (op : Int) by omega]
            exact ⟨v1, _, rfl, ((s1.tr a2).tr SEv5).up rfl, fun _ => ⟨k1.op8 op, b2⟩, fun w => no_tf w⟩
          · obtain ⟨μ2, c1, c2, c3⟩ := wrongM (D + 1) b1
            rw [if_neg q41, if_neg (fun w => q41 w.2), bnd_s, if_pos rfl, c1, bnd_s]
            exact ⟨0, μ2, rfl, (s1.tr a2).tr c3, fun w => no_ft w, fun _ => c2⟩
      · have q3 : hd rest = 33 := q33.resolve_right q40
        obtain ⟨v1, μ1, a1, a2, a3, a4⟩ := (hA hop).2 rest.tail _ m1
        have lst : ∀ (x : Int) (μ : amM), At cr2 (D + 2) 168 6 [] [0, 0, x, 0, 0] μ = some ((if x = 0 then 1 else 0), μ) := fun x μ => by
          by_cases q : x = 0
          · rw [B168_6, if_pos q, if_pos q, B168_8]
          · rw [B168_6, if_neg q, if_neg q, B168_7, B168_8]
        rw [if_neg q40, if_pos q3, B168_3, a1, bnd_s, B168_4, if_neg q40, B168_5, wf_e, if_neg q40, lst]
        cases hb1 : (pl u f 5 (op + 1) rest.tail).1 with
        | false =>
          have ft := a4 hb1
          rw [if_neg (show ¬ false = true by decide)]
          refine ⟨_, _, rfl, (s1.tr a2).up rfl, fun w => absurd w (by rw [hb1]; decide), fun _ => ?_⟩
          obtain ⟨pre, e, e7⟩ := ft
          exact ⟨pre, e, e7⟩
        | true =>
          obtain ⟨b1, b2⟩ := a3 hb1
          rw [if_pos rfl, b1.2.2.2.1, w32_i (by omega) (by omega), show ((op + 1 : Nat) : Int) - 1 = (op : Int) by omega]
          refine ⟨_, _, rfl, (s1.tr a2).up rfl, fun _ => ⟨b1.op8 op, fun st => ?_⟩, fun w => no_tf w⟩
          rw [ev_app, b2]
          rfl
  · have n33 : hd rest ≠ 33 := fun e => q33 (Or.inl e)
    have n40 : hd rest ≠ 40 := fun e => q33 (Or.inr e)
    rw [if_neg n33, if_neg n40, B168_9, mName_e _ hu h.2.1.2.2, bnd_s]
    by_cases qn : nmo u (hd rest) = -1
    · rw [if_pos (by omega), B168_10]
      by_cases q1 : 48 ≤ hd rest ∧ hd rest ≤ 57
      · rw [if_pos q1]
        obtain ⟨μ1, cnt, a1, a2, a3, a4, a5⟩ := dl_loop D hT hb 4 0 0 1 rest μ rfl h (by decide) (by decide) (by decide)
        have hcnt : 0 + 1 ≤ cnt := a4.2 (by decide) q1
        have a1' : At cr2 (D + 2) 168 11 [] [71, 0, 0, 0, 0] μ = At cr2 (D + 2) 168 12 [] [71, 0, 0, (rdn 4 0 rest).1, (cnt : Int)] μ1 := a1
        have hge := rdn_ge 4 0 rest (by decide)
        rw [a1', B168_12, if_neg (by omega), B168_13, B168_14]
        refine ⟨_, μ1, rfl, a3, fun _ => ⟨a2, fun st => ?_⟩, fun w => no_tf w⟩
        unfold evl evl
        rw [if_pos (by omega), if_pos a5]
      · have hin : (decide ((48 : Int) ≤ hd rest) && decide (hd rest ≤ 57)) = false := by
          rw [← Bool.decide_and]
          exact decide_eq_false q1
        rw [if_neg q1, if_neg (fun w => w qn), if_pos (Or.inl ⟨n33, n40⟩), B168_11, if_pos (by decide), hereM _ hT hb h, bnd_s, in_e, bnd_s, hin, if_pos (show bi false = 0 from rfl), B168_12, if_pos rfl, w1, bnd_s, B168_14]
        exact bad
    · have nR : nmo u (hd rest) < 4 ∧ -1 ≤ nmo u (hd rest) := by
        unfold nmo
        split <;> (split <;> try split <;> try split <;> try split) <;> decide
      have hne : hd rest ≠ -1 := fun e => qn (by rw [e]; exact nmo_m1 u)
      have hq1 : ¬ (48 ≤ hd rest ∧ hd rest ≤ 57) := fun w => by
        apply qn
        unfold nmo
        split
        · rw [if_neg (by omega), if_neg (by omega)]
        · rw [if_neg (by omega), if_neg (by omega), if_neg (by omega), if_neg (by omega)]
      obtain ⟨n1, n2, n3⟩ := h.next hne
      have hk := n1.2.2.2.2.2 (nmo u (hd rest)).toNat (by omega)
      rw [if_neg (by omega), if_neg hq1, if_pos qn, wf_e, w32_i (by omega) (by omega), rd_p (by omega) (by omega), hk]
      refine ⟨_, _, rfl, SEv5, fun _ => ⟨n1, fun st => ?_⟩, fun w => no_tf w⟩
      unfold evl evl
      rw [if_pos (by omega), if_neg (by omega), show (10000 + nmo u (hd rest) - 10000).toNat = (nmo u (hd rest)).toNat by omega]
theorem ev_all {u base : Nat} (hu : u < 2) {T : List Int} {nv : Nat → Int} (hT : TB T) (hb : base ≤ 526) : ∀ (f d lv op : Nat), (5 - op) * 7 + 1 + (5 - lv) ≤ f → op ≤ 5 → lv ≤ 5 → EvH u base T op nv (d + f + 4) (163 + lv) (pl u f lv op)
  | 0, d, lv, op, hf, _, _ => absurd hf (by omega)
  | f + 1, d, lv, op, hf, ho, hlv => by
    have hlen : ∀ l, (pl u (f + 1) lv op l).2.1.length ≤ l.length := fun l => by
      have := pl_len u (f + 1) lv op l
      omega
    refine ⟨hlen, fun rest μ h => ?_⟩
    have hl50 := hT.1
    have hD : d + (f + 1) + 4 = d + f + 2 + 3 := by omega
    match lv, hlv with
    | 5, _ =>
      rw [hD]
      exact unit_e (d + f + 2) hu hT hb ho (fun ho2 => ev_all hu hT hb f d 5 (op + 1) (by omega) (by omega) (by omega)) (fun ho2 => ev_all hu hT hb f d 0 (op + 1) (by omega) (by omega) (by omega)) rest μ h
    | 0, _ =>
      have hg : EvH u base T op nv (d + f + 4) 164 (pl u f 1 op) := ev_all hu hT hb f d 1 op (by omega) ho (by omega)
      have e : pl u (f + 1) 0 op rest = if (pl u f 1 op rest).1 then lp (pl u f 1 op) 0 50 (pl u f 1 op rest).2.1 (pl u f 1 op rest).2.2 else pl u f 1 op rest := rfl
      rw [e]
      refine lv_ev hg hl50 h (M163 (d + f + 4) μ) (fun v1 μ1 hf => ⟨v1, ?_⟩) (fun rest p v0 μ hl h hp => lv0_loop (d + f + 2) hT hb hg 50 rest p v0 μ hl h hp)
      rw [B163_1, takesF (d + f + 2) hf (by decide), bnd_s, if_pos rfl, B163_5]
    | 1, _ =>
      have hg : EvH u base T op nv (d + f + 4) 165 (pl u f 2 op) := ev_all hu hT hb f d 2 op (by omega) ho (by omega)
      have e : pl u (f + 1) 1 op rest = if (pl u f 2 op rest).1 then lp (pl u f 2 op) 1 50 (pl u f 2 op rest).2.1 (pl u f 2 op rest).2.2 else pl u f 2 op rest := rfl
      rw [e]
      refine lv_ev hg hl50 h (M164 (d + f + 4) μ) (fun v1 μ1 hf => ⟨v1, ?_⟩) (fun rest p v0 μ hl h hp => lv1_loop (d + f + 2) hT hb hg 50 rest p v0 μ hl h hp)
      rw [B164_1, takesF (d + f + 2) hf (by decide), bnd_s, if_pos rfl, B164_4]
    | 2, _ =>
      have hg : EvH u base T op nv (d + f + 4) 166 (pl u f 3 op) := ev_all hu hT hb f d 3 op (by omega) ho (by omega)
      have e : pl u (f + 1) 2 op rest = if (pl u f 3 op rest).1 then lp (pl u f 3 op) 2 1 (pl u f 3 op rest).2.1 (pl u f 3 op rest).2.2 else pl u f 3 op rest := rfl
      rw [e]
      exact lv2_e (d + f + 2) hT hb hg rest μ h
    | 3, _ =>
      have hg : EvH u base T op nv (d + f + 4) 167 (pl u f 4 op) := ev_all hu hT hb f d 4 op (by omega) ho (by omega)
      have e : pl u (f + 1) 3 op rest = if (pl u f 4 op rest).1 then lp (pl u f 4 op) 3 50 (pl u f 4 op rest).2.1 (pl u f 4 op rest).2.2 else pl u f 4 op rest := rfl
      rw [e]
      refine lv_ev hg hl50 h (M166 (d + f + 4) μ) (fun v1 μ1 hf => ⟨v1, ?_⟩) (fun rest p v0 μ hl h hp => lv3_loop (d + f + 2) hT hb hg 50 rest p v0 μ hl h hp)
      rw [B166_1, hereF _ hf, bnd_s, if_neg (by decide), hereF _ hf, bnd_s, if_neg (by decide), B166_5]
    | 4, _ =>
      have hg : EvH u base T op nv (d + f + 4) 168 (pl u f 5 op) := ev_all hu hT hb f d 5 op (by omega) ho (by omega)
      have e : pl u (f + 1) 4 op rest = if (pl u f 5 op rest).1 then lp (pl u f 5 op) 4 50 (pl u f 5 op rest).2.1 (pl u f 5 op rest).2.2 else pl u f 5 op rest := rfl
      rw [e]
      refine lv_ev hg hl50 h (M167 (d + f + 4) μ) (fun v1 μ1 hf => ⟨v1, ?_⟩) (fun rest p v0 μ hl h hp => lv4_loop (d + f + 2) hT hb hg 50 rest p v0 μ hl h hp)
      rw [B167_1, hereF _ hf, bnd_s, if_neg (by decide), hereF _ hf, bnd_s, if_neg (by decide), hereF _ hf, bnd_s, if_neg (by decide), B167_7]
