/-! ===== the class's search: least cost by so many changes ===== -/
def mn (a b : Int) : Int := if a = -1 ∨ b = -1 then max a b else min a b
theorem mn_R {a b : Int} (ha : -1 ≤ a) (hb : -1 ≤ b) : -1 ≤ mn a b ∧ (mn a b = a ∨ mn a b = b) ∧ (a ≠ -1 → mn a b ≠ -1 ∧ mn a b ≤ a) ∧ (b ≠ -1 → mn a b ≠ -1 ∧ mn a b ≤ b) := by
  unfold mn
  by_cases q : a = -1 ∨ b = -1
  · rw [if_pos q]; omega
  · rw [if_neg q]; omega
def lk1 (L : Nat → Bool) (j m : Nat) : Bool := m == j || L m
theorem lk1_at (L : Nat → Bool) (j : Nat) : lk1 L j j = true := by
  unfold lk1
  rw [beq_self_eq_true]; rfl
theorem lk1_up {L : Nat → Bool} {j m : Nat} (h : L m = true) : lk1 L j m = true := by
  unfold lk1
  rw [h, Bool.or_true]
theorem lk1_f {L : Nat → Bool} {j m : Nat} (h : L m = false) (hm : m ≠ j) : lk1 L j m = false := by
  unfold lk1
  rw [h, beq_false_of_ne hm]; rfl
/-- the three sorts tried -/
def tr1 (f : Tn → Int) (t : Tn) (l k : Nat) (s : Nat) (best : Int) : Int := if (s : Int) = mk (t.code l) k then best else mn best (f (t.turn l k (s : Int)))
def trs (f : Tn → Int) (t : Tn) (l k : Nat) : Int := tr1 f t l k 2 (tr1 f t l k 1 (tr1 f t l k 0 (-1)))
def ads (best w : Int) : Int := if best = -1 then -1 else best + w
def mskx (t : Tn) (p : Nat × Nat) (k : Nat) : Bool := if alk (t.code p.1) (t.code p.2) < t.least then al1 (t.code p.1) (t.code p.2) k == 0 else al1 (t.code p.1) (t.code p.2) k == 1
def atts (t : Tn) (p : Nat × Nat) : List (Nat × Nat) := ((List.range 4).filter (mskx t p)).flatMap (fun k => [(p.1, k), (p.2, k)])
def fld (g : (Nat → Bool) → Nat → Nat → Int) : List (Nat × Nat) → Int → (Nat → Bool) → Int × (Nat → Bool)
  | [], best, L => (best, L)
  | c :: A, best, L => if L (4 * c.1 + c.2) = true then fld g A (mn best (-1)) L else fld g A (mn best (g (lk1 L (4 * c.1 + c.2)) c.1 c.2)) (lk1 L (4 * c.1 + c.2))
def ned (t : Tn) (Q : List (Nat × Nat)) : Int := max (((Q.length + 3) / 4 : Nat) : Int) (t.gaps Q (fun _ => false))
def nd (W : Nat → Int) : Nat → Tn → (Nat → Bool) → List (Nat × Nat) → Int
  | 0, _, _, Q => if Q.length = 0 then 0 else -1
  | r + 1, t, L, Q => if Q.length = 0 then 0 else if ((r + 1 : Nat) : Int) < ned t Q then -1 else (fld (fun L' l k => ads (trs (fun t' => nd W r t' L' (nxt t' l Q)) t l k) (W (4 * l + k))) (atts t (Q.getD 0 (0, 0))) (-1) L).1
def DD (t : Tn) (c : Nat → Int) : Int := df (fun _ => 1) t.code c (4 * t.lots)
def CC (W : Nat → Int) (t : Tn) (c : Nat → Int) : Int := df W t.code c (4 * t.lots)
def WP (W : Nat → Int) (t : Tn) : Prop := ∀ m, t.bound (m / 4) = true → 0 ≤ W m
theorem CC_0 {W : Nat → Int} {t : Tn} {L : Nat → Bool} {c : Nat → Int} (hW : WP W t) (h : tg t L c) : 0 ≤ CC W t c := sm_nn _ (fun m hm => by
  by_cases q : mkx t.code m = mkx c m
  · rw [if_pos q]; exact Int.le_refl _
  · rw [if_neg q]
    exact hW m (h.1 m hm q).1)
theorem DD_0 (t : Tn) (c : Nat → Int) : 0 ≤ DD t c := sm_nn _ (fun m _ => by
  by_cases q : mkx t.code m = mkx c m
  · rw [if_pos q]; exact Int.le_refl _
  · rw [if_neg q]
    show (0 : Int) ≤ 1
    decide)
theorem WP_turn {W : Nat → Int} {t : Tn} (h : WP W t) (l k : Nat) (s : Int) : WP W (t.turn l k s) := fun m hm => h m (by rw [turn_bound] at hm; exact hm)
/-- what a search answers: nothing too much, nothing missed -/
def Snd (W : Nat → Int) (r : Nat) (t : Tn) (L : Nat → Bool) (v : Int) : Prop := v ≠ -1 → ∃ c, tg t L c ∧ DD t c ≤ (r : Int) ∧ CC W t c = v
def Cpl (W : Nat → Int) (r : Nat) (t : Tn) (L : Nat → Bool) (v : Int) : Prop := ∀ c, tg t L c → DD t c ≤ (r : Int) → v ≠ -1 ∧ v ≤ CC W t c
theorem tr1_R {f : Tn → Int} {t : Tn} {l k s : Nat} (hf : -1 ≤ f (t.turn l k (s : Int))) {best : Int} (hb : -1 ≤ best) : -1 ≤ tr1 f t l k s best ∧ (best ≠ -1 → tr1 f t l k s best ≠ -1 ∧ tr1 f t l k s best ≤ best) ∧ (tr1 f t l k s best = best ∨ ((s : Int) ≠ mk (t.code l) k ∧ tr1 f t l k s best = f (t.turn l k (s : Int)))) ∧ ((s : Int) ≠ mk (t.code l) k → f (t.turn l k (s : Int)) ≠ -1 → tr1 f t l k s best ≠ -1 ∧ tr1 f t l k s best ≤ f (t.turn l k (s : Int))) := by
  unfold tr1
  by_cases q : (s : Int) = mk (t.code l) k
  · rw [if_pos q]
    exact ⟨hb, fun h => ⟨h, Int.le_refl _⟩, Or.inl rfl, fun h => absurd q h⟩
  · rw [if_neg q]
    have m := mn_R hb hf
    refine ⟨m.1, m.2.2.1, ?_, fun _ => m.2.2.2⟩
    rcases m.2.1 with e | e
    · exact Or.inl e
    · exact Or.inr ⟨q, e⟩
theorem trs_R {f : Tn → Int} (t : Tn) (l k : Nat) (hf : ∀ s : Nat, s < 3 → -1 ≤ f (t.turn l k (s : Int))) : -1 ≤ trs f t l k ∧ (trs f t l k ≠ -1 → ∃ s : Nat, s < 3 ∧ (s : Int) ≠ mk (t.code l) k ∧ trs f t l k = f (t.turn l k (s : Int))) ∧ (∀ s : Nat, s < 3 → (s : Int) ≠ mk (t.code l) k → f (t.turn l k (s : Int)) ≠ -1 → trs f t l k ≠ -1 ∧ trs f t l k ≤ f (t.turn l k (s : Int))) := by
  have a0 := tr1_R (hf 0 (by decide)) (best := -1) (by decide)
  have a1 := tr1_R (hf 1 (by decide)) a0.1
  have a2 := tr1_R (hf 2 (by decide)) a1.1
  refine ⟨a2.1, fun hn => ?_, fun s hs h1 h2 => ?_⟩
  · rcases a2.2.2.1 with e | ⟨e1, e2⟩
    · rcases a1.2.2.1 with e' | ⟨e1, e2⟩
      · rcases a0.2.2.1 with e'' | ⟨e1, e2⟩
        · exact absurd (e.trans (e'.trans e'')) hn
        · exact ⟨0, by decide, e1, e.trans (e'.trans e2)⟩
      · exact ⟨1, by decide, e1, e.trans e2⟩
    · exact ⟨2, by decide, e1, e2⟩
  · match s, hs with
    | 0, _ =>
      have b0 := a0.2.2.2 h1 h2
      have b1 := a1.2.1 b0.1
      have b2 := a2.2.1 b1.1
      exact ⟨b2.1, Int.le_trans b2.2 (Int.le_trans b1.2 b0.2)⟩
    | 1, _ =>
      have b1 := a1.2.2.2 h1 h2
      have b2 := a2.2.1 b1.1
      exact ⟨b2.1, Int.le_trans b2.2 b1.2⟩
    | 2, _ => exact a2.2.2.2 h1 h2
theorem ads_R {b w : Int} (hb : -1 ≤ b) (hw : 0 ≤ w) : -1 ≤ ads b w ∧ (ads b w ≠ -1 → b ≠ -1 ∧ ads b w = b + w) ∧ (b ≠ -1 → ads b w ≠ -1 ∧ ads b w = b + w) := by
  unfold ads
  by_cases q : b = -1
  · rw [if_pos q]; omega
  · rw [if_neg q]; omega
/-- one mark tried with its sorts -/
theorem try_s' {W : Nat → Int} {r : Nat} {t : Tn} (ok : t.Ok) (hW : WP W t) {L : Nat → Bool} {l k : Nat} (hl : l < t.lots) (hb : t.bound l = true) (hk : k < 4) (hL : L (4 * l + k) = false) {f : Tn → Int} (hf : ∀ s : Nat, s < 3 → -1 ≤ f (t.turn l k (s : Int))) (hs : ∀ s : Nat, s < 3 → Snd W r (t.turn l k (s : Int)) (lk1 L (4 * l + k)) (f (t.turn l k (s : Int)))) (hc : ∀ s : Nat, s < 3 → Cpl W r (t.turn l k (s : Int)) (lk1 L (4 * l + k)) (f (t.turn l k (s : Int)))) : -1 ≤ ads (trs f t l k) (W (4 * l + k)) ∧ Snd W (r + 1) t L (ads (trs f t l k) (W (4 * l + k))) ∧ (∀ c, tg t L c → DD t c ≤ ((r + 1 : Nat) : Int) → mkx t.code (4 * l + k) ≠ mkx c (4 * l + k) → ads (trs f t l k) (W (4 * l + k)) ≠ -1 ∧ ads (trs f t l k) (W (4 * l + k)) ≤ CC W t c) := by
  have hw : 0 ≤ W (4 * l + k) := hW _ (by rw [show (4 * l + k) / 4 = l by omega]; exact hb)
  have T := trs_R t l k hf
  have A := ads_R T.1 hw
  have ne := Tn.bound_ne hb
  refine ⟨A.1, fun hn => ?_, fun c hg hd hdiff => ?_⟩
  · have a := A.2.1 hn
    obtain ⟨s, s1, s2, s3⟩ := T.2.1 a.1
    obtain ⟨c, c1, c2, c3⟩ := hs s s1 (by rw [← s3]; exact a.1)
    have back := tg_back ok (L := L) hl hb hk (s := (s : Int)) (by omega) (by rw [mkx_at _ _ hk]; exact Ne.symm s2) hL (lk1_at L _) (fun m hm => lk1_up hm) c1
    refine ⟨c, back.1, ?_, ?_⟩
    · have := back.2 (fun _ => 1)
      unfold DD at c2 ⊢
      rw [this]
      have e : 4 * (t.turn l k (s : Int)).lots = 4 * t.lots := rfl
      rw [e] at c2
      omega
    · have := back.2 W
      unfold CC at c3 ⊢
      rw [this, a.2, s3]
      have e : 4 * (t.turn l k (s : Int)).lots = 4 * t.lots := rfl
      rw [e] at c3
      omega
  · have q := hg.1 _ (show 4 * l + k < 4 * t.lots by omega) hdiff
    obtain ⟨s, hs1⟩ := Int.eq_ofNat_of_zero_le q.2.1
    have st := tg_step ok (L' := lk1 L (4 * l + k)) hl ne hk hg hdiff (fun m hm hm2 hw2 => lk1_f (hg.1 m hm hw2).2.2.2 hm2)
    rw [hs1] at st q hdiff
    have s3 : s < 3 := by omega
    have hd2 : DD (t.turn l k (s : Int)) c ≤ (r : Int) := by
      have := st.2 (fun _ => 1)
      unfold DD at hd ⊢
      rw [this] at hd
      have e : 4 * (t.turn l k (s : Int)).lots = 4 * t.lots := rfl
      rw [e]
      omega
    have cc := hc s s3 c st.1 hd2
    have tt := T.2.2 s s3 (by rw [mkx_at _ _ hk] at hdiff; exact Ne.symm hdiff) cc.1
    have aa := A.2.2 tt.1
    refine ⟨aa.1, ?_⟩
    have := st.2 W
    have cc2 := cc.2
    unfold CC at cc2 ⊢
    rw [this, aa.2]
    have e : 4 * (t.turn l k (s : Int)).lots = 4 * t.lots := rfl
    rw [e] at cc2
    omega
