/-! ===== the reference finds its pairs ===== -/
/-- nothing is changed but what S says -/
def same (S : Nat → Nat → Bool) (μ μ' : amM) : Prop := ∀ c i, S c i = false → μ' c i = μ c i
theorem same.rf {S : Nat → Nat → Bool} {μ : amM} : same S μ μ := fun _ _ _ => rfl
theorem same.tr {S : Nat → Nat → Bool} {μ μ1 μ2 : amM} (h1 : same S μ μ1) (h2 : same S μ1 μ2) : same S μ μ2 := fun c i h => (h2 c i h).trans (h1 c i h)
theorem same.up {S : Nat → Nat → Bool} {μ μ1 : amM} {c i : Nat} {v : Int} (h : same S μ μ1) (hs : S c i = true) : same S μ (up μ1 c i v) := by
  intro c' i' h'
  rw [up_ne, h c' i' h']
  by_cases e : c' = c
  · right
    intro e2
    subst e e2
    rw [hs] at h'
    cases h'
  · exact Or.inl e
theorem same.wide {S S' : Nat → Nat → Bool} {μ μ' : amM} (h : same S μ μ') (hs : ∀ c i, S' c i = false → S c i = false) : same S' μ μ' := fun c i h' => h c i (hs c i h')
def SP (c i : Nat) : Bool := c == 76 || c == 77 || (c == 71 && i == 13)
def PF (l : List (Nat × Nat)) (μ : amM) : Prop := μ 71 13 = (l.length : Int) ∧ ∀ i, i < l.length → μ 76 i = ((l.getD i (0, 0)).1 : Int) ∧ μ 77 i = ((l.getD i (0, 0)).2 : Int)
theorem getD_app_l {α : Type} {l l' : List α} {i : Nat} {z : α} (h : i < l.length) : (l ++ l').getD i z = l.getD i z := by
  rw [List.getD_eq_getElem?_getD, List.getElem?_append_left h, ← List.getD_eq_getElem?_getD]
theorem getD_app_r {α : Type} {l : List α} {x z : α} : (l ++ [x]).getD l.length z = x := by
  rw [List.getD_eq_getElem?_getD, List.getElem?_append_right (Nat.le_refl _), Nat.sub_self]; rfl
theorem addPair_e (d : Nat) {l : List (Nat × Nat)} {μ : amM} (h : PF l μ) (hl : l.length < 128) (a b : Nat) : ∃ μ', RD cr2 (d + 1) 174 [71, (a : Int), (b : Int)] μ = some (0, μ') ∧ PF (l ++ [(a, b)]) μ' ∧ same SP μ μ' := by
  obtain ⟨h1, h2⟩ := h
  refine ⟨up (up (up μ 76 l.length a) 77 l.length b) 71 13 ((l.length : Int) + 1), ?_, ?_, ?_⟩
  · rw [M174, wr_p (by omega) (by omega), h1, up_ne _ _ _ _ (Or.inl (by decide)), h1, wr_p (by omega) (by omega)]
    unfold wf
    rw [up_ne _ _ _ _ (Or.inl (by decide)), up_ne _ _ _ _ (Or.inl (by decide)), h1, w32_i (by omega) (by omega), Int.toNat_natCast]
  · refine ⟨?_, fun i hi => ?_⟩
    · rw [up_eq, List.length_append]; rfl
    · rw [List.length_append] at hi
      have hi : i < l.length + 1 := hi
      have q1 : up (up (up μ 76 l.length a) 77 l.length b) 71 13 ((l.length : Int) + 1) 76 i = if i = l.length then (a : Int) else μ 76 i := rfl
      have q2 : up (up (up μ 76 l.length a) 77 l.length b) 71 13 ((l.length : Int) + 1) 77 i = if i = l.length then (b : Int) else μ 77 i := rfl
      rw [q1, q2]
      by_cases e : i = l.length
      · rw [if_pos e, if_pos e, e, getD_app_r]
        exact ⟨rfl, rfl⟩
      · have hil : i < l.length := by omega
        rw [if_neg e, if_neg e, getD_app_l hil]
        exact h2 i hil
  · exact ((same.rf.up (by rfl)).up (by rfl)).up (by rfl)
