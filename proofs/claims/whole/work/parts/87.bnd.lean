/-! ===== how many changes a wrong pair asks for ===== -/
def d1 (f g : Nat → Int) (m : Nat) : Int := if mkx f m = mkx g m then 0 else 1
theorem d1_01 (f g : Nat → Int) (m : Nat) : 0 ≤ d1 f g m ∧ d1 f g m ≤ 1 := by
  unfold d1
  by_cases q : mkx f m = mkx g m
  · rw [if_pos q]; decide
  · rw [if_neg q]; decide
theorem mkx_at (f : Nat → Int) (l : Nat) {k : Nat} (hk : k < 4) : mkx f (4 * l + k) = mk (f l) k := by
  unfold mkx
  rw [show (4 * l + k) / 4 = l by omega, show (4 * l + k) % 4 = k by omega]
theorem al1_eq {f g : Nat → Int} {a b k : Nat} (hk : k < 4) (h1 : mkx f (4 * a + k) = mkx g (4 * a + k)) (h2 : mkx f (4 * b + k) = mkx g (4 * b + k)) : al1 (f a) (f b) k = al1 (g a) (g b) k := by
  rw [mkx_at _ _ hk, mkx_at _ _ hk] at h1 h2
  unfold al1
  rw [h1, h2]
theorem al1_near {f g : Nat → Int} {a b k : Nat} (hk : k < 4) : al1 (f a) (f b) k ≤ al1 (g a) (g b) k + (d1 f g (4 * a + k) + d1 f g (4 * b + k)) ∧ al1 (g a) (g b) k ≤ al1 (f a) (f b) k + (d1 f g (4 * a + k) + d1 f g (4 * b + k)) := by
  have r1 := al1_01 (f a) (f b) k
  have r2 := al1_01 (g a) (g b) k
  have n1 := d1_01 f g (4 * a + k)
  have n2 := d1_01 f g (4 * b + k)
  by_cases q1 : mkx f (4 * a + k) = mkx g (4 * a + k)
  · by_cases q2 : mkx f (4 * b + k) = mkx g (4 * b + k)
    · rw [al1_eq hk q1 q2]
      omega
    · have : d1 f g (4 * b + k) = 1 := if_neg q2
      omega
  · have : d1 f g (4 * a + k) = 1 := if_neg q1
    omega
theorem hd_d1 (f g : Nat → Int) (l : Nat) : hd4 f g l = d1 f g (4 * l + 0) + d1 f g (4 * l + 1) + d1 f g (4 * l + 2) + d1 f g (4 * l + 3) := by
  show 0 + d1 f g (4 * l + 0) + d1 f g (4 * l + 1) + d1 f g (4 * l + 2) + d1 f g (4 * l + 3) = _
  omega
theorem alk_near (f g : Nat → Int) (a b : Nat) : alk (f a) (f b) ≤ alk (g a) (g b) + (hd4 f g a + hd4 f g b) ∧ alk (g a) (g b) ≤ alk (f a) (f b) + (hd4 f g a + hd4 f g b) := by
  have n0 := al1_near (f := f) (g := g) (a := a) (b := b) (k := 0) (by decide)
  have n1 := al1_near (f := f) (g := g) (a := a) (b := b) (k := 1) (by decide)
  have n2 := al1_near (f := f) (g := g) (a := a) (b := b) (k := 2) (by decide)
  have n3 := al1_near (f := f) (g := g) (a := a) (b := b) (k := 3) (by decide)
  rw [hd_d1, hd_d1]
  unfold alk
  omega
/-- a mark that must change for it: one not alike, if they are to be more alike -/
theorem must_up {f g : Nat → Int} {a b : Nat} (h : alk (f a) (f b) < alk (g a) (g b)) : ∃ k, k < 4 ∧ al1 (f a) (f b) k = 0 ∧ (mkx f (4 * a + k) ≠ mkx g (4 * a + k) ∨ mkx f (4 * b + k) ≠ mkx g (4 * b + k)) := by
  have one : ∀ k, k < 4 → al1 (f a) (f b) k < al1 (g a) (g b) k → al1 (f a) (f b) k = 0 ∧ (mkx f (4 * a + k) ≠ mkx g (4 * a + k) ∨ mkx f (4 * b + k) ≠ mkx g (4 * b + k)) := fun k hk hlt => by
    have r1 := al1_01 (f a) (f b) k
    have r2 := al1_01 (g a) (g b) k
    refine ⟨by omega, ?_⟩
    by_cases q1 : mkx f (4 * a + k) = mkx g (4 * a + k)
    · by_cases q2 : mkx f (4 * b + k) = mkx g (4 * b + k)
      · rw [al1_eq hk q1 q2] at hlt
        omega
      · exact Or.inr q2
    · exact Or.inl q1
  unfold alk at h
  by_cases c0 : al1 (f a) (f b) 0 < al1 (g a) (g b) 0
  · exact ⟨0, by decide, one 0 (by decide) c0⟩
  · by_cases c1 : al1 (f a) (f b) 1 < al1 (g a) (g b) 1
    · exact ⟨1, by decide, one 1 (by decide) c1⟩
    · by_cases c2 : al1 (f a) (f b) 2 < al1 (g a) (g b) 2
      · exact ⟨2, by decide, one 2 (by decide) c2⟩
      · exact ⟨3, by decide, one 3 (by decide) (by omega)⟩
theorem must_dn {f g : Nat → Int} {a b : Nat} (h : alk (g a) (g b) < alk (f a) (f b)) : ∃ k, k < 4 ∧ al1 (f a) (f b) k = 1 ∧ (mkx f (4 * a + k) ≠ mkx g (4 * a + k) ∨ mkx f (4 * b + k) ≠ mkx g (4 * b + k)) := by
  have one : ∀ k, k < 4 → al1 (g a) (g b) k < al1 (f a) (f b) k → al1 (f a) (f b) k = 1 ∧ (mkx f (4 * a + k) ≠ mkx g (4 * a + k) ∨ mkx f (4 * b + k) ≠ mkx g (4 * b + k)) := fun k hk hlt => by
    have r1 := al1_01 (f a) (f b) k
    have r2 := al1_01 (g a) (g b) k
    refine ⟨by omega, ?_⟩
    by_cases q1 : mkx f (4 * a + k) = mkx g (4 * a + k)
    · by_cases q2 : mkx f (4 * b + k) = mkx g (4 * b + k)
      · rw [al1_eq hk q1 q2] at hlt
        omega
      · exact Or.inr q2
    · exact Or.inl q1
  unfold alk at h
  by_cases c0 : al1 (g a) (g b) 0 < al1 (f a) (f b) 0
  · exact ⟨0, by decide, one 0 (by decide) c0⟩
  · by_cases c1 : al1 (g a) (g b) 1 < al1 (f a) (f b) 1
    · exact ⟨1, by decide, one 1 (by decide) c1⟩
    · by_cases c2 : al1 (g a) (g b) 2 < al1 (f a) (f b) 2
      · exact ⟨2, by decide, one 2 (by decide) c2⟩
      · exact ⟨3, by decide, one 3 (by decide) (by omega)⟩
theorem sm_nn {F : Nat → Int} : ∀ n, (∀ i, i < n → 0 ≤ F i) → 0 ≤ sm n F
  | 0, _ => Int.le_refl _
  | n + 1, h => by
    have a := sm_nn n (fun i hi => h i (by omega))
    have b := h n (by omega)
    show 0 ≤ sm n F + F n
    omega
theorem sm_mono {F G : Nat → Int} (h : ∀ i, F i ≤ G i) : ∀ n, sm n F ≤ sm n G
  | 0 => Int.le_refl _
  | n + 1 => by
    have a := sm_mono h n
    have b := h n
    show sm n F + F n ≤ sm n G + G n
    omega
theorem sm_mono1 {F G : Nat → Int} (h : ∀ i, F i ≤ G i) : ∀ n j, j < n → sm n F + (G j - F j) ≤ sm n G
  | 0, j, hj => by omega
  | n + 1, j, hj => by
    show sm n F + F n + (G j - F j) ≤ sm n G + G n
    by_cases e : j = n
    · have a := sm_mono h n
      rw [e]
      omega
    · have a := sm_mono1 h n j (by omega)
      have b := h n
      omega
def Tn.gap (t : Tn) (p : Nat × Nat) : Int := max (t.least - alk (t.code p.1) (t.code p.2)) (alk (t.code p.1) (t.code p.2) - t.most)
theorem gap_le {t : Tn} {c : Nat → Int} {p : Nat × Nat} (h : t.go (c p.1) (c p.2) = true) : t.gap p ≤ hd4 t.code c p.1 + hd4 t.code c p.2 := by
  have n := alk_near t.code c p.1 p.2
  unfold Tn.go at h
  rw [Bool.and_eq_true] at h
  have h1 := of_decide_eq_true h.1
  have h2 := of_decide_eq_true h.2
  unfold Tn.gap
  omega
/-- pairs with no house in common, one behind the other, and what they ask for -/
def us2 (U : Nat → Bool) (p : Nat × Nat) (l : Nat) : Bool := U l || l == p.1 || l == p.2
def Tn.gaps (t : Tn) : List (Nat × Nat) → (Nat → Bool) → Int
  | [], _ => 0
  | p :: Q, U => if U p.1 = true ∨ U p.2 = true then t.gaps Q U else t.gap p + t.gaps Q (us2 U p)
def hU (f g : Nat → Int) (U : Nat → Bool) (l : Nat) : Int := bif U l then 0 else hd4 f g l
theorem hU_us {f g : Nat → Int} {U : Nat → Bool} {p : Nat × Nat} {n : Nat} (h1 : p.1 < n) (h2 : p.2 < n) (hne : p.1 ≠ p.2) (u1 : U p.1 = false) (u2 : U p.2 = false) : sm n (hU f g U) = sm n (hU f g (us2 U p)) + (hd4 f g p.1 + hd4 f g p.2) := by
  have e1 := sm_upd (F := hU f g U) (G := hU f g (us2 U (p.1, p.1))) (j := p.1) (fun i hi => by
    unfold hU us2
    rw [beq_false_of_ne hi, Bool.or_false, Bool.or_false]) n h1
  have e2 := sm_upd (F := hU f g (us2 U (p.1, p.1))) (G := hU f g (us2 U p)) (j := p.2) (fun i hi => by
    unfold hU us2
    rw [beq_false_of_ne hi, Bool.or_false, Bool.or_assoc, Bool.or_self]) n h2
  have v1 : hU f g U p.1 = hd4 f g p.1 := by
    unfold hU
    rw [u1]; rfl
  have v2 : hU f g (us2 U (p.1, p.1)) p.1 = 0 := by
    unfold hU us2
    rw [beq_self_eq_true, Bool.or_true]; rfl
  have v3 : hU f g (us2 U (p.1, p.1)) p.2 = hd4 f g p.2 := by
    unfold hU us2
    rw [u2, beq_false_of_ne (Ne.symm hne)]; rfl
  have v4 : hU f g (us2 U p) p.2 = 0 := by
    unfold hU us2
    rw [beq_self_eq_true, Bool.or_true]; rfl
  omega
theorem gaps_le {t : Tn} {c : Nat → Int} : ∀ (Q : List (Nat × Nat)) (U : Nat → Bool), (∀ p ∈ Q, p.1 < t.lots ∧ p.2 < t.lots ∧ p.1 ≠ p.2 ∧ t.go (c p.1) (c p.2) = true) → t.gaps Q U ≤ sm t.lots (hU t.code c U)
  | [], U, _ => (sm_nn t.lots (fun l _ => by
      unfold hU
      cases U l
      · exact hd_0 _ _ _
      · exact Int.le_refl _))
  | p :: Q, U, h => by
    have hp := h p (List.mem_cons_self ..)
    have hQ := fun q hq => h q (List.mem_cons_of_mem _ hq)
    unfold Tn.gaps
    by_cases q : U p.1 = true ∨ U p.2 = true
    · rw [if_pos q]
      exact gaps_le Q U hQ
    · rw [if_neg q]
      have u1 : U p.1 = false := by
        cases w : U p.1 with
        | false => rfl
        | true => exact absurd (Or.inl w) q
      have u2 : U p.2 = false := by
        cases w : U p.2 with
        | false => rfl
        | true => exact absurd (Or.inr w) q
      have e := hU_us (f := t.code) (g := c) hp.1 hp.2.1 hp.2.2.1 u1 u2
      have g := gap_le (t := t) (c := c) hp.2.2.2
      have ih := gaps_le Q (us2 U p) hQ
      omega
/-- each wrong pair has a house that changes; a house is in four pairs at most -/
theorem touch_le {f g : Nat → Int} {n : Nat} : ∀ Q : List (Nat × Nat), (∀ p ∈ Q, p.1 < n ∧ p.2 < n ∧ p.1 ≠ p.2 ∧ (1 ≤ hd4 f g p.1 ∨ 1 ≤ hd4 f g p.2)) → (Q.length : Int) ≤ sm n (fun l => if 1 ≤ hd4 f g l then ((oth Q l).length : Int) else 0)
  | [], _ => sm_nn n (fun l _ => by
      by_cases q : 1 ≤ hd4 f g l
      · rw [if_pos q]; exact Int.natCast_nonneg _
      · rw [if_neg q]; exact Int.le_refl _)
  | p :: Q, h => by
    have hp := h p (List.mem_cons_self ..)
    have ih := touch_le Q (fun q hq => h q (List.mem_cons_of_mem _ hq))
    have key : ∀ l, l < n → 1 ≤ hd4 f g l → (l = p.1 ∨ l = p.2) → sm n (fun l => if 1 ≤ hd4 f g l then ((oth Q l).length : Int) else 0) + 1 ≤ sm n (fun l => if 1 ≤ hd4 f g l then ((oth (p :: Q) l).length : Int) else 0) := fun l hl h1 hlp => by
      have mono := sm_mono1 (F := fun l => if 1 ≤ hd4 f g l then ((oth Q l).length : Int) else 0) (G := fun l => if 1 ≤ hd4 f g l then ((oth (p :: Q) l).length : Int) else 0) (fun i => by
        show (if 1 ≤ hd4 f g i then ((oth Q i).length : Int) else 0) ≤ (if 1 ≤ hd4 f g i then ((oth (p :: Q) i).length : Int) else 0)
        by_cases q : 1 ≤ hd4 f g i
        · rw [if_pos q, if_pos q, oth_cons]
          by_cases q1 : p.1 = i
          · rw [if_pos q1, List.length_cons]; omega
          · rw [if_neg q1]
            by_cases q2 : p.2 = i
            · rw [if_pos q2, List.length_cons]; omega
            · rw [if_neg q2]; exact Int.le_refl _
        · rw [if_neg q, if_neg q]; exact Int.le_refl _) n l hl
      have e1 : (if 1 ≤ hd4 f g l then ((oth Q l).length : Int) else 0) + 1 = (if 1 ≤ hd4 f g l then ((oth (p :: Q) l).length : Int) else 0) := by
        rw [if_pos h1, if_pos h1, oth_cons]
        rcases hlp with rfl | rfl
        · rw [if_pos rfl, List.length_cons]; rfl
        · rw [if_neg hp.2.2.1, if_pos rfl, List.length_cons]; rfl
      omega
    rw [List.length_cons]
    rcases hp.2.2.2 with h1 | h1
    · have := key p.1 hp.1 h1 (Or.inl rfl)
      omega
    · have := key p.2 hp.2.1 h1 (Or.inr rfl)
      omega
theorem oth_filter (P : Nat × Nat → Bool) (l : Nat) : ∀ Q : List (Nat × Nat), (oth (Q.filter P) l).length ≤ (oth Q l).length
  | [] => Nat.le_refl _
  | p :: Q => by
    have ih := oth_filter P l Q
    cases q : P p with
    | true =>
      rw [List.filter_cons_of_pos q, oth_cons, oth_cons]
      by_cases q1 : p.1 = l
      · rw [if_pos q1, if_pos q1, List.length_cons, List.length_cons]; omega
      · rw [if_neg q1, if_neg q1]
        by_cases q2 : p.2 = l
        · rw [if_pos q2, if_pos q2, List.length_cons, List.length_cons]; omega
        · rw [if_neg q2, if_neg q2]; exact ih
    | false =>
      rw [List.filter_cons_of_neg (by rw [q]; decide), oth_cons]
      by_cases q1 : p.1 = l
      · rw [if_pos q1, List.length_cons]; omega
      · rw [if_neg q1]
        by_cases q2 : p.2 = l
        · rw [if_pos q2, List.length_cons]; omega
        · rw [if_neg q2]; exact ih
