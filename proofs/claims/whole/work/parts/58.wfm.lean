/-! ===== texts are worth one number ===== -/
theorem rdn_lt : ∀ (k : Nat) (v B : Int) (l : List Int), v < B → 0 ≤ v → 1 ≤ B → (k = 4 → B ≤ 1) ∧ (k = 3 → B ≤ 10) ∧ (k = 2 → B ≤ 100) ∧ (k = 1 → B ≤ 1000) ∧ (k = 0 → B ≤ 10000) ∧ k ≤ 4 → (rdn k v l).1 < 10000
  | 0, v, B, l, h, _, _, hB => by
    show v < 10000
    have := hB.2.2.2.2.1 rfl
    omega
  | k + 1, v, B, [], h, h0, h1, hB => by
    show v < 10000
    have h5 := hB.2.2.2.2.2
    rcases (show k = 0 ∨ k = 1 ∨ k = 2 ∨ k = 3 by omega) with e | e | e | e
    · have := hB.2.2.2.1 (by omega); omega
    · have := hB.2.2.1 (by omega); omega
    · have := hB.2.1 (by omega); omega
    · have := hB.1 (by omega); omega
  | k + 1, v, B, c :: l, h, h0, h1, hB => by
    have h5 := hB.2.2.2.2.2
    have hv : B ≤ 1000 := by
      rcases (show k = 0 ∨ k = 1 ∨ k = 2 ∨ k = 3 by omega) with e | e | e | e
      · exact hB.2.2.2.1 (by omega)
      · have := hB.2.2.1 (by omega); omega
      · have := hB.2.1 (by omega); omega
      · have := hB.1 (by omega); omega
    unfold rdn
    by_cases q : 48 ≤ c ∧ c ≤ 57
    · rw [if_pos q]
      refine rdn_lt k (10 * v + c - 48) (10 * B) l (by omega) (by omega) (by omega) ⟨fun e => by omega, fun e => ?_, fun e => ?_, fun e => ?_, fun e => ?_, by omega⟩
      · have := hB.1 (by omega); omega
      · have := hB.2.1 (by omega); omega
      · have := hB.2.2.1 (by omega); omega
      · have := hB.2.2.2.1 (by omega); omega
    · rw [if_neg q]
      show v < 10000
      omega
theorem num_lt (l : List Int) : (rdn 4 0 l).1 < 10000 := rdn_lt 4 0 1 l (by decide) (by decide) (by decide) (by decide)
theorem sg_R {lv : Nat} {c : Int} (h : sg lv c = true) : 0 ≤ c ∧ c ≠ 33 ∧ c < 1000 := by
  unfold sg at h
  split at h <;> simp only [Bool.or_eq_true, beq_iff_eq] at h <;> omega
theorem nmo_R (u : Nat) (c : Int) : nmo u c < 4 ∧ -1 ≤ nmo u c := by
  unfold nmo
  split <;> (split <;> try split <;> try split <;> try split) <;> decide
theorem lp_wf {nv : Nat → Int} {g : List Int → Bool × List Int × List Int} (hg : ∀ l, (g l).1 = true → ∃ v, ∀ st, evl nv (g l).2.2 st = v :: st) (lv : Nat) : ∀ (n : Nat) (l p : List Int) (v : Int), (∀ st, evl nv p st = v :: st) → (lp g lv n l p).1 = true → ∃ v, ∀ st, evl nv (lp g lv n l p).2.2 st = v :: st
  | 0, l, p, v, hp, _ => ⟨v, hp⟩
  | n + 1, l, p, v, hp, h => by
    unfold lp at h ⊢
    by_cases q : sg lv (hd l) = true
    · rw [if_pos q] at h ⊢
      by_cases q2 : (g l.tail).1 = true
      · obtain ⟨v1, h1⟩ := hg l.tail q2
        rw [if_pos q2] at h ⊢
        have hR := sg_R q
        exact lp_wf hg lv n _ _ _ (ev_2 hp h1 hR.1 hR.2.1) h
      · rw [if_neg q2] at h
        cases h
    · rw [if_neg q]
      exact ⟨v, hp⟩
theorem pl_wf (u : Nat) (nv : Nat → Int) : ∀ (f lv op : Nat) (l : List Int), (pl u f lv op l).1 = true → ∃ v, ∀ st, evl nv (pl u f lv op l).2.2 st = v :: st
  | 0, _, _, _, h => by cases h
  | f + 1, lv, op, l, h => by
    unfold pl at h ⊢
    by_cases q : 5 ≤ lv
    · rw [if_pos q] at h ⊢
      by_cases q1 : 48 ≤ hd l ∧ hd l ≤ 57
      · rw [if_pos q1]
        refine ⟨(rdn 4 0 l).1, fun st => ?_⟩
        have := num_lt l
        unfold evl evl
        rw [if_pos (by omega), if_pos this]
      · rw [if_neg q1] at h ⊢
        by_cases q2 : nmo u (hd l) ≠ -1
        · rw [if_pos q2]
          refine ⟨nv (10000 + nmo u (hd l) - 10000).toNat, fun st => ?_⟩
          have := nmo_R u (hd l)
          unfold evl evl
          rw [if_pos (by omega), if_neg (by omega)]
        · rw [if_neg q2] at h ⊢
          by_cases q3 : (hd l ≠ 33 ∧ hd l ≠ 40) ∨ 5 ≤ op
          · rw [if_pos q3] at h
            cases h
          · rw [if_neg q3] at h ⊢
            by_cases q4 : hd l = 33
            · rw [if_pos q4] at h ⊢
              by_cases q5 : (pl u f 5 (op + 1) l.tail).1 = true
              · obtain ⟨v, hv⟩ := pl_wf u nv f 5 (op + 1) l.tail q5
                rw [if_pos q5]
                refine ⟨if v = 0 then 1 else 0, fun st => ?_⟩
                rw [ev_app, hv]
                rfl
              · rw [if_neg q5] at h
                exact absurd h q5
            · rw [if_neg q4] at h ⊢
              by_cases q5 : (pl u f 0 (op + 1) l.tail).1 = true ∧ hd (pl u f 0 (op + 1) l.tail).2.1 = 41
              · rw [if_pos q5]
                exact pl_wf u nv f 0 (op + 1) l.tail q5.1
              · rw [if_neg q5] at h
                cases h
    · rw [if_neg q] at h ⊢
      by_cases q1 : (pl u f (lv + 1) op l).1 = true
      · obtain ⟨v, hv⟩ := pl_wf u nv f (lv + 1) op l q1
        rw [if_pos q1] at h ⊢
        exact lp_wf (fun l => pl_wf u nv f (lv + 1) op l) lv _ _ _ v hv h
      · rw [if_neg q1] at h
        exact absurd h q1
/-- what the parts are: numbers, names, signs -/
def ptOk (u : Nat) (p : Int) : Prop := (0 ≤ p ∧ p < 10000) ∨ (∃ c, nmo u c ≠ -1 ∧ p = 10000 + nmo u c) ∨ (20000 ≤ p ∧ p < 30000)
theorem lp_pt {u : Nat} {g : List Int → Bool × List Int × List Int} (hg : ∀ l, ∀ p ∈ (g l).2.2, ptOk u p) (lv : Nat) : ∀ (n : Nat) (l p : List Int), (∀ x ∈ p, ptOk u x) → ∀ x ∈ (lp g lv n l p).2.2, ptOk u x
  | 0, l, p, hp => hp
  | n + 1, l, p, hp => by
    unfold lp
    by_cases q : sg lv (hd l) = true
    · have hR := sg_R q
      rw [if_pos q]
      by_cases q2 : (g l.tail).1 = true
      · rw [if_pos q2]
        refine lp_pt hg lv n _ _ (fun x hx => ?_)
        rcases List.mem_append.mp hx with hx | hx
        · rcases List.mem_append.mp hx with hx | hx
          · exact hp x hx
          · exact hg _ x hx
        · rw [List.mem_singleton] at hx
          exact Or.inr (Or.inr (by omega))
      · rw [if_neg q2]
        intro x hx
        rcases List.mem_append.mp hx with hx | hx
        · exact hp x hx
        · exact hg _ x hx
    · rw [if_neg q]
      exact hp
theorem pl_pt (u : Nat) : ∀ (f lv op : Nat) (l : List Int), ∀ x ∈ (pl u f lv op l).2.2, ptOk u x
  | 0, _, _, _ => fun x hx => by cases hx
  | f + 1, lv, op, l => by
    unfold pl
    by_cases q : 5 ≤ lv
    · rw [if_pos q]
      by_cases q1 : 48 ≤ hd l ∧ hd l ≤ 57
      · rw [if_pos q1]
        intro x hx
        have hx := List.mem_singleton.mp hx
        have := num_lt l
        have := rdn_ge 4 0 l (by decide)
        exact Or.inl (by omega)
      · rw [if_neg q1]
        by_cases q2 : nmo u (hd l) ≠ -1
        · rw [if_pos q2]
          intro x hx
          exact Or.inr (Or.inl ⟨hd l, q2, List.mem_singleton.mp hx⟩)
        · rw [if_neg q2]
          by_cases q3 : (hd l ≠ 33 ∧ hd l ≠ 40) ∨ 5 ≤ op
          · rw [if_pos q3]
            intro x hx
            cases hx
          · rw [if_neg q3]
            by_cases q4 : hd l = 33
            · rw [if_pos q4]
              by_cases q5 : (pl u f 5 (op + 1) l.tail).1 = true
              · rw [if_pos q5]
                intro x hx
                rcases List.mem_append.mp hx with hx | hx
                · exact pl_pt u f 5 (op + 1) l.tail x hx
                · rw [List.mem_singleton] at hx
                  exact Or.inr (Or.inr (by omega))
              · rw [if_neg q5]
                exact pl_pt u f 5 (op + 1) l.tail
            · rw [if_neg q4]
              by_cases q5 : (pl u f 0 (op + 1) l.tail).1 = true ∧ hd (pl u f 0 (op + 1) l.tail).2.1 = 41
              · rw [if_pos q5]
                exact pl_pt u f 0 (op + 1) l.tail
              · rw [if_neg q5]
                exact pl_pt u f 0 (op + 1) l.tail
    · rw [if_neg q]
      by_cases q1 : (pl u f (lv + 1) op l).1 = true
      · rw [if_pos q1]
        exact lp_pt (fun l => pl_pt u f (lv + 1) op l) lv _ _ _ (pl_pt u f (lv + 1) op l)
      · rw [if_neg q1]
        exact pl_pt u f (lv + 1) op l
theorem evl_congr {nv nv' : Nat → Int} : ∀ (l st : List Int), (∀ p ∈ l, 10000 ≤ p → p < 20000 → nv (p - 10000).toNat = nv' (p - 10000).toNat) → evl nv l st = evl nv' l st
  | [], _, _ => rfl
  | p :: l, st, h => by
    have hp := h p (List.mem_cons_self ..)
    unfold evl
    rw [evl_congr l _ (fun q hq => h q (List.mem_cons_of_mem _ hq))]
    congr 1
    by_cases q : p < 20000
    · rw [if_pos q, if_pos q]
      by_cases q2 : p < 10000
      · rw [if_pos q2, if_pos q2]
      · rw [if_neg q2, if_neg q2, hp (by omega) q]
    · rw [if_neg q, if_neg q]
/-- COST knows two names alone -/
theorem txv_0 (l : List Int) (a b c d c' d' : Int) : txv 0 l a b c d = txv 0 l a b c' d' := by
  unfold txv
  rw [evl_congr (nv := nv4 a b c d) (nv' := nv4 a b c' d') (cmp 0 l) [] (fun p hp h1 h2 => ?_)]
  rcases pl_pt 0 60 0 0 l p hp with h | ⟨x, hx, e⟩ | h
  · omega
  · have : nmo 0 x = 0 ∨ nmo 0 x = 1 := by
      unfold nmo at hx ⊢
      rw [if_pos rfl] at hx ⊢
      by_cases q : x = 107
      · rw [if_pos q]; exact Or.inl rfl
      · rw [if_neg q] at hx ⊢
        by_cases q2 : x = 109
        · rw [if_pos q2]; exact Or.inr rfl
        · rw [if_neg q2] at hx; exact absurd rfl hx
    rcases this with e2 | e2
    · rw [e, e2]; rfl
    · rw [e, e2]; rfl
  · omega
theorem TOk.val {u : Nat} {l : List Int} (h : TOk u l) (hn : l ≠ []) (nv : Nat → Int) : ∃ v, ∀ st, evl nv (cmp u l) st = v :: st := pl_wf u nv 60 0 0 l (h.2.2.resolve_left hn).1
