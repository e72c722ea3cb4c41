def SVm (c i : Nat) : Bool := (Nat.beq c 71 && Nat.beq i 33) || Nat.beq c 90
def VM (t : Tn) (n : Nat) (tr : List Int) (μ : amM) : Prop := MV tr μ ∧ μ 71 34 = (n : Int) ∧ TM 72 t μ
def SyM (t : Tn) (n : Nat) (tr : List Int) (μ : amM) (r : amR) (g : Int × List Int) : Prop := ∃ μ', r = some (g.1, μ') ∧ VM t n (tr ++ g.2) μ' ∧ same SVm μ μ'
theorem ran_e (d : Nat) {t : Tn} {n : Nat} {tr : List Int} {μ : amM} (h : VM t n tr μ) (hl : tr.length < 40) (b : Int) : ∃ μ', RD cr2 (d + 1) 241 [71, b] μ = some (0, μ') ∧ VM t n (tr ++ [b]) μ' ∧ same SVm μ μ' := by
  obtain ⟨⟨h1, h2⟩, h3, h4⟩ := h
  have e1 : up μ 90 tr.length b 71 33 = (tr.length : Int) := h1
  have s1 : same SVm μ (up (up μ 90 tr.length b) 71 33 ((tr.length : Int) + 1)) := (same.rf.up rfl).up rfl
  refine ⟨up (up μ 90 tr.length b) 71 33 ((tr.length : Int) + 1), ?_, ⟨PV_add h1 h2 (by decide), h3, h4.keep s1 (fun _ => rfl)⟩, s1⟩
  rw [M241, h1, if_pos (by omega), wr_p (by omega) (by omega), Int.toNat_natCast, wf_e, e1, w32_i (by omega) (by omega), B241_1]
theorem SyM.app {t : Tn} {n : Nat} {tr : List Int} {b : Int} {g : Int × List Int} {v : Int} {μ μ1 : amM} {r : amR} (h : ∃ μ', r = some (v, μ') ∧ VM t n ((tr ++ [b]) ++ g.2) μ' ∧ same SVm μ1 μ') (hs : same SVm μ μ1) : SyM t n tr μ r (v, b :: g.2) := by
  obtain ⟨μ', a1, a2, a3⟩ := h
  refine ⟨μ', a1, ?_, hs.tr a3⟩
  rw [List.append_assoc] at a2
  exact a2
theorem own_e (d : Nat) {t : Tn} (ok : t.Ok) {n : Nat} (hn : n < t.lots) {tr : List Int} {μ : amM} (h : VM t n tr μ) : RD cr2 (d + 2) 242 [71] μ = some (t.kind n, μ) := by
  rw [M242, h.2.1, mKind_e d ok h.2.2 hn, bnd_s]
theorem len1 {tr : List Int} {b : Int} {k : Nat} (h : tr.length + 1 + k ≤ 40) : (tr ++ [b]).length + k ≤ 40 := by
  rw [List.length_append, List.length_singleton]
  omega
theorem len2 {tr l : List Int} {b : Int} {k j : Nat} (hl : l.length ≤ j) (h : tr.length + 1 + j + k ≤ 40) : ((tr ++ [b]) ++ l).length + k ≤ 40 := by
  rw [List.length_append, List.length_append, List.length_singleton]
  omega
theorem mst_0 (d : Nat) {t : Tn} {n : Nat} {tr : List Int} {μ : amM} (h : VM t n tr μ) (hl : tr.length < 40) (x : Int) : SyM t n tr μ (RD cr2 (d + 2) 243 [71, 0, x] μ) (vst0 (n : Int) x) := by
  obtain ⟨μ1, g1, g2, g3⟩ := ran_e d h hl 10
  refine ⟨μ1, ?_, g2, g3⟩
  rw [M243, if_pos rfl, B243_1, g1, bnd_s, g2.2.1]
  rfl
theorem mst_up (d : Nat) {k : Int} (hk : -1 ≤ k ∧ k ≤ 6) (h0 : k ≠ 0) (h2 : k ≠ 2) (x : Int) (μ : amM) : RD cr2 (d + 2) 243 [71, k, x] μ = RD cr2 (d + 1) 243 [71, abv k, x] μ := by
  rw [M243, if_neg h0, if_neg h2, B243_3, above_e d μ hk, bnd_s, bnd_id _ (fun _ _ => rfl)]
theorem mst_2 (d : Nat) {t : Tn} {n : Nat} {tr : List Int} {μ : amM} (h : VM t n tr μ) (hl : tr.length + 2 ≤ 40) (x : Int) : SyM t n tr μ (RD cr2 (d + 3) 243 [71, 2, x] μ) (vst (n : Int) 2 x) := by
  obtain ⟨μ1, g1, g2, g3⟩ := ran_e (d + 1) h (by omega) 30
  obtain ⟨μ2, f1, f2, f3⟩ := mst_0 d g2 (by rw [List.length_append, List.length_singleton]; omega) x
  unfold vst
  rw [if_pos (Or.inl rfl)]
  refine SyM.app ⟨μ2, ?_, f2, f3⟩ g3
  rw [M243, if_neg (by decide), if_pos rfl, B243_2, g1, bnd_s, above_e (d + 1) μ1 (by decide), bnd_s]
  show bnd (RD cr2 (d + 2) 243 [71, 0, x] μ1) _ = _
  rw [f1, bnd_s]
theorem mst (d : Nat) {t : Tn} {n : Nat} {tr : List Int} {μ : amM} (h : VM t n tr μ) (hl : tr.length + 2 ≤ 40) {k : Int} (hk : 0 ≤ k ∧ k < 7) (x : Int) : SyM t n tr μ (RD cr2 (d + 5) 243 [71, k, x] μ) (vst (n : Int) k x) := by
  have z : ∀ {k : Int}, k ≠ 2 → k ≠ 5 → vst (n : Int) k x = vst0 (n : Int) x := fun {k} h1 h2 => by
    unfold vst
    rw [if_neg (fun w => by rcases w with w | w; exact h1 w; exact h2 w)]
  rcases (show k = 0 ∨ k = 1 ∨ k = 2 ∨ k = 3 ∨ k = 4 ∨ k = 5 ∨ k = 6 by omega) with rfl | rfl | rfl | rfl | rfl | rfl | rfl
  · rw [z (by decide) (by decide)]
    exact mst_0 (d + 3) h (by omega) x
  · rw [z (by decide) (by decide), mst_up (d + 3) (by decide) (by decide) (by decide)]
    exact mst_0 (d + 2) h (by omega) x
  · exact mst_2 (d + 2) h hl x
  · rw [z (by decide) (by decide), mst_up (d + 3) (by decide) (by decide) (by decide)]
    exact mst_0 (d + 2) h (by omega) x
  · rw [z (by decide) (by decide), mst_up (d + 3) (by decide) (by decide) (by decide)]
    show SyM t n tr μ (RD cr2 (d + 4) 243 [71, 1, x] μ) _
    rw [mst_up (d + 2) (by decide) (by decide) (by decide)]
    exact mst_0 (d + 1) h (by omega) x
  · rw [mst_up (d + 3) (by decide) (by decide) (by decide)]
    have := mst_2 (d + 1) h hl x
    exact this
  · rw [z (by decide) (by decide), mst_up (d + 3) (by decide) (by decide) (by decide)]
    show SyM t n tr μ (RD cr2 (d + 4) 243 [71, 3, x] μ) _
    rw [mst_up (d + 2) (by decide) (by decide) (by decide)]
    exact mst_0 (d + 1) h (by omega) x
theorem mtu_0 (d : Nat) {t : Tn} (ok : t.Ok) {n : Nat} (hn : n < t.lots) (ne : t.kind n ≠ -1) {tr : List Int} {μ : amM} (h : VM t n tr μ) (hl : tr.length < 40) (x : Int) : SyM t n tr μ (RD cr2 (d + 2) 245 [71, 0, x] μ) (vtu0 (t.m n) x) := by
  have h64 := ok.le.2
  obtain ⟨μ1, g1, g2, g3⟩ := ran_e d h hl 12
  refine ⟨μ1, ?_, g2, g3⟩
  rw [M245, if_pos rfl, B245_1, g1, bnd_s, g2.2.1, w32_i (by omega) (by omega), rd_p (by omega) (by omega), show ((84 : Int) + n).toNat = 84 + n by omega, ((g2.2.2.2 n hn).2 ne).1]
  rfl
theorem mtu_up (d : Nat) {k : Int} (hk : -1 ≤ k ∧ k ≤ 6) (h0 : k ≠ 0) (h3 : k ≠ 3) (h6 : k ≠ 6) (x : Int) (μ : amM) : RD cr2 (d + 2) 245 [71, k, x] μ = RD cr2 (d + 1) 245 [71, abv k, x] μ := by
  rw [M245, if_neg h0, if_neg h3, if_neg h6, B245_4, above_e d μ hk, bnd_s, bnd_id _ (fun _ _ => rfl)]
theorem mtu_3 (d : Nat) {t : Tn} (ok : t.Ok) {n : Nat} (hn : n < t.lots) (ne : t.kind n ≠ -1) {tr : List Int} {μ : amM} (h : VM t n tr μ) (hl : tr.length + 2 ≤ 40) (x : Int) : SyM t n tr μ (RD cr2 (d + 3) 245 [71, 3, x] μ) (vtu3 (t.m n) x) := by
  obtain ⟨μ1, g1, g2, g3⟩ := ran_e (d + 1) h (by omega) 40
  obtain ⟨μ2, f1, f2, f3⟩ := mtu_0 d ok hn ne g2 (by rw [List.length_append, List.length_singleton]; omega) x
  refine SyM.app ⟨μ2, ?_, f2, f3⟩ g3
  rw [M245, if_neg (by decide), if_pos rfl, B245_2, g1, bnd_s, above_e (d + 1) μ1 (by decide), bnd_s]
  show bnd (RD cr2 (d + 2) 245 [71, 0, x] μ1) _ = _
  rw [f1, bnd_s]
theorem mtu (d : Nat) {t : Tn} (ok : t.Ok) {n : Nat} (hn : n < t.lots) (ne : t.kind n ≠ -1) {tr : List Int} {μ : amM} (h : VM t n tr μ) (hl : tr.length + 3 ≤ 40) {k : Int} (hk : 0 ≤ k ∧ k < 7) (x : Int) : SyM t n tr μ (RD cr2 (d + 5) 245 [71, k, x] μ) (vtu (n : Int) (t.m n) k x) := by
  have z : ∀ {k : Int}, k ≠ 3 → k ≠ 6 → vtu (n : Int) (t.m n) k x = vtu0 (t.m n) x := fun {k} h1 h2 => by
    unfold vtu
    rw [if_neg h1, if_neg h2]
  rcases (show k = 0 ∨ k = 1 ∨ k = 2 ∨ k = 3 ∨ k = 4 ∨ k = 5 ∨ k = 6 by omega) with rfl | rfl | rfl | rfl | rfl | rfl | rfl
  · rw [z (by decide) (by decide)]
    exact mtu_0 (d + 3) ok hn ne h (by omega) x
  · rw [z (by decide) (by decide), mtu_up (d + 3) (by decide) (by decide) (by decide) (by decide)]
    exact mtu_0 (d + 2) ok hn ne h (by omega) x
  · rw [z (by decide) (by decide), mtu_up (d + 3) (by decide) (by decide) (by decide) (by decide)]
    exact mtu_0 (d + 2) ok hn ne h (by omega) x
  · exact mtu_3 (d + 2) ok hn ne h (by omega) x
  · rw [z (by decide) (by decide), mtu_up (d + 3) (by decide) (by decide) (by decide) (by decide)]
    show SyM t n tr μ (RD cr2 (d + 4) 245 [71, 1, x] μ) _
    rw [mtu_up (d + 2) (by decide) (by decide) (by decide) (by decide)]
    exact mtu_0 (d + 1) ok hn ne h (by omega) x
  · rw [z (by decide) (by decide), mtu_up (d + 3) (by decide) (by decide) (by decide) (by decide)]
    show SyM t n tr μ (RD cr2 (d + 4) 245 [71, 2, x] μ) _
    rw [mtu_up (d + 2) (by decide) (by decide) (by decide) (by decide)]
    exact mtu_0 (d + 1) ok hn ne h (by omega) x
  · obtain ⟨μ1, g1, g2, g3⟩ := ran_e (d + 3) h (by omega) 70
    obtain ⟨μ2, f1, f2, f3⟩ := mtu_3 (d + 1) ok hn ne g2 (len1 (by omega)) x
    show SyM t n tr μ (RD cr2 (d + 5) 245 [71, 6, x] μ) (bXor (vtu3 (t.m n) x).1 (n : Int), 70 :: (vtu3 (t.m n) x).2)
    refine SyM.app ⟨μ2, ?_, f2, f3⟩ g3
    rw [M245, if_neg (by decide), if_neg (by decide), if_pos rfl, B245_3, g1, bnd_s, above_e (d + 3) μ1 (by decide), bnd_s]
    show bnd (RD cr2 (d + 4) 245 [71, 3, x] μ1) _ = _
    rw [f1, bnd_s, f2.2.1]
theorem mpa_0 (d : Nat) {t : Tn} (ok : t.Ok) {n : Nat} (hn : n < t.lots) (hk : 0 ≤ t.kind n ∧ t.kind n < 7) {tr : List Int} {μ : amM} (h : VM t n tr μ) (hl : tr.length + 3 ≤ 40) (x : Int) : SyM t n tr μ (RD cr2 (d + 6) 244 [71, 0, x] μ) (vpa0 (n : Int) (t.kind n) x) := by
  obtain ⟨μ1, g1, g2, g3⟩ := ran_e (d + 4) h (by omega) 11
  obtain ⟨μ2, f1, f2, f3⟩ := mst d g2 (len1 (by omega)) hk x
  refine SyM.app ⟨μ2, ?_, f2, f3⟩ g3
  rw [M244, if_pos rfl, B244_1, g1, bnd_s, own_e (d + 3) ok hn g2, bnd_s, f1, bnd_s]
theorem mpa_up (d : Nat) {k : Int} (hk : -1 ≤ k ∧ k ≤ 6) (h0 : k ≠ 0) (h1 : k ≠ 1) (h4 : k ≠ 4) (x : Int) (μ : amM) : RD cr2 (d + 2) 244 [71, k, x] μ = RD cr2 (d + 1) 244 [71, abv k, x] μ := by
  have e : At cr2 (d + 1) 244 4 [] [71, k, x, 0] μ = RD cr2 (d + 1) 244 [71, abv k, x] μ := by
    rw [B244_4, above_e d μ hk, bnd_s, bnd_id _ (fun _ _ => rfl)]
  rw [M244, if_neg h0, if_neg h1, if_neg h4, e]
  split
  · rfl
  · split <;> rfl
theorem mpa_1 (d : Nat) {t : Tn} (ok : t.Ok) {n : Nat} (hn : n < t.lots) (ne : t.kind n ≠ -1) (hk : 0 ≤ t.kind n ∧ t.kind n < 7) {tr : List Int} {μ : amM} (h : VM t n tr μ) (hl : tr.length + 7 ≤ 40) (x : Int) : SyM t n tr μ (RD cr2 (d + 7) 244 [71, 1, x] μ) (vpa1 (n : Int) (t.m n) (t.kind n) x) := by
  obtain ⟨μ1, g1, g2, g3⟩ := ran_e (d + 5) h (by omega) 20
  obtain ⟨μ2, f1, f2, f3⟩ := mpa_0 d ok hn hk g2 (len1 (by omega)) x
  obtain ⟨μ3, e1, e2, e3⟩ := mtu (d + 1) ok hn ne f2 (len2 (vpa0_l _ _ _) (by omega)) hk 1
  rw [List.append_assoc] at e2
  refine SyM.app (g := (0, (vpa0 (n : Int) (t.kind n) x).2 ++ (vtu (n : Int) (t.m n) (t.kind n) 1).2)) ⟨μ3, ?_, e2, f3.tr e3⟩ g3
  rw [M244, if_neg (by decide), if_pos rfl, B244_2, g1, bnd_s, above_e (d + 5) μ1 (by decide), bnd_s]
  show bnd (RD cr2 (d + 6) 244 [71, 0, x] μ1) _ = _
  rw [f1, bnd_s, own_e (d + 4) ok hn f2, bnd_s, e1, bnd_s]
theorem mpa (d : Nat) {t : Tn} (ok : t.Ok) {n : Nat} (hn : n < t.lots) (ne : t.kind n ≠ -1) (hkn : 0 ≤ t.kind n ∧ t.kind n < 7) {tr : List Int} {μ : amM} (h : VM t n tr μ) (hl : tr.length + 8 ≤ 40) {k : Int} (hk : 0 ≤ k ∧ k < 7) (x : Int) : SyM t n tr μ (RD cr2 (d + 8) 244 [71, k, x] μ) (vpa (n : Int) (t.m n) (t.kind n) k x) := by
  have z : ∀ {k : Int}, k ≠ 1 → k ≠ 4 → vpa (n : Int) (t.m n) (t.kind n) k x = vpa0 (n : Int) (t.kind n) x := fun {k} h1 h2 => by
    unfold vpa
    rw [if_neg h1, if_neg h2]
  rcases (show k = 0 ∨ k = 1 ∨ k = 2 ∨ k = 3 ∨ k = 4 ∨ k = 5 ∨ k = 6 by omega) with rfl | rfl | rfl | rfl | rfl | rfl | rfl
  · rw [z (by decide) (by decide)]
    exact mpa_0 (d + 2) ok hn hkn h (by omega) x
  · exact mpa_1 (d + 1) ok hn ne hkn h (by omega) x
  · rw [z (by decide) (by decide), mpa_up (d + 6) (by decide) (by decide) (by decide) (by decide)]
    exact mpa_0 (d + 1) ok hn hkn h (by omega) x
  · rw [z (by decide) (by decide), mpa_up (d + 6) (by decide) (by decide) (by decide) (by decide)]
    exact mpa_0 (d + 1) ok hn hkn h (by omega) x
  · obtain ⟨μ1, g1, g2, g3⟩ := ran_e (d + 6) h (by omega) 50
    obtain ⟨μ2, f1, f2, f3⟩ := mpa_1 d ok hn ne hkn g2 (len1 (by omega)) (w32 (x + 1))
    show SyM t n tr μ (RD cr2 (d + 8) 244 [71, 4, x] μ) ((vpa1 (n : Int) (t.m n) (t.kind n) (w32 (x + 1))).1, 50 :: (vpa1 (n : Int) (t.m n) (t.kind n) (w32 (x + 1))).2)
    refine SyM.app ⟨μ2, ?_, f2, f3⟩ g3
    rw [M244, if_neg (by decide), if_neg (by decide), if_neg (by decide), if_neg (by decide), if_pos rfl, B244_3, g1, bnd_s, above_e (d + 6) μ1 (by decide), bnd_s]
    show bnd (RD cr2 (d + 7) 244 [71, 1, w32 (x + 1)] μ1) _ = _
    rw [f1, bnd_s]
  · rw [z (by decide) (by decide), mpa_up (d + 6) (by decide) (by decide) (by decide) (by decide)]
    show SyM t n tr μ (RD cr2 (d + 7) 244 [71, 2, x] μ) _
    rw [mpa_up (d + 5) (by decide) (by decide) (by decide) (by decide)]
    exact mpa_0 d ok hn hkn h (by omega) x
  · rw [z (by decide) (by decide), mpa_up (d + 6) (by decide) (by decide) (by decide) (by decide)]
    show SyM t n tr μ (RD cr2 (d + 7) 244 [71, 3, x] μ) _
    rw [mpa_up (d + 5) (by decide) (by decide) (by decide) (by decide)]
    exact mpa_0 d ok hn hkn h (by omega) x
theorem mte_0 (d : Nat) {t : Tn} (ok : t.Ok) {n : Nat} (hn : n < t.lots) (ne : t.kind n ≠ -1) (hkn : 0 ≤ t.kind n ∧ t.kind n < 7) {tr : List Int} {μ : amM} (h : VM t n tr μ) (hl : tr.length + 12 ≤ 40) (x : Int) : SyM t n tr μ (RD cr2 (d + 9) 246 [71, 0, x] μ) (vte0 (n : Int) (t.m n) (t.kind n) x) := by
  obtain ⟨μ1, g1, g2, g3⟩ := ran_e (d + 7) h (by omega) 13
  obtain ⟨μ2, f1, f2, f3⟩ := mpa d ok hn ne hkn g2 (len1 (by omega)) hkn x
  obtain ⟨μ3, e1, e2, e3⟩ := mtu (d + 3) ok hn ne f2 (len2 (vpa_l _ _ _ _ _) (by omega)) hkn x
  rw [List.append_assoc] at e2
  refine SyM.app (g := (0, (vpa (n : Int) (t.m n) (t.kind n) (t.kind n) x).2 ++ (vtu (n : Int) (t.m n) (t.kind n) x).2)) ⟨μ3, ?_, e2, f3.tr e3⟩ g3
  rw [M246, if_pos rfl, B246_1, g1, bnd_s, own_e (d + 6) ok hn g2, bnd_s, f1, bnd_s, own_e (d + 6) ok hn f2, bnd_s, e1, bnd_s]
theorem mte_up (d : Nat) {k : Int} (hk : -1 ≤ k ∧ k ≤ 6) (h0 : k ≠ 0) (h5 : k ≠ 5) (h6 : k ≠ 6) (x : Int) (μ : amM) : RD cr2 (d + 2) 246 [71, k, x] μ = RD cr2 (d + 1) 246 [71, abv k, x] μ := by
  rw [M246, if_neg h0, if_neg h5, if_neg h6, B246_4, above_e d μ hk, bnd_s, bnd_id _ (fun _ _ => rfl)]
theorem mte (d : Nat) {t : Tn} (ok : t.Ok) {n : Nat} (hn : n < t.lots) (ne : t.kind n ≠ -1) (hkn : 0 ≤ t.kind n ∧ t.kind n < 7) {tr : List Int} {μ : amM} (h : VM t n tr μ) (hl : tr.length + 21 ≤ 40) {k : Int} (hk : 0 ≤ k ∧ k < 7) (x : Int) : SyM t n tr μ (RD cr2 (d + 12) 246 [71, k, x] μ) (vte (n : Int) (t.m n) (t.kind n) k x) := by
  have z : ∀ {k : Int}, k ≠ 5 → k ≠ 6 → vte (n : Int) (t.m n) (t.kind n) k x = vte0 (n : Int) (t.m n) (t.kind n) x := fun {k} h1 h2 => by
    unfold vte
    rw [if_neg h1, if_neg h2]
  rcases (show k = 0 ∨ k = 1 ∨ k = 2 ∨ k = 3 ∨ k = 4 ∨ k = 5 ∨ k = 6 by omega) with rfl | rfl | rfl | rfl | rfl | rfl | rfl
  · rw [z (by decide) (by decide)]
    exact mte_0 (d + 3) ok hn ne hkn h (by omega) x
  · rw [z (by decide) (by decide), mte_up (d + 10) (by decide) (by decide) (by decide) (by decide)]
    exact mte_0 (d + 2) ok hn ne hkn h (by omega) x
  · rw [z (by decide) (by decide), mte_up (d + 10) (by decide) (by decide) (by decide) (by decide)]
    exact mte_0 (d + 2) ok hn ne hkn h (by omega) x
  · rw [z (by decide) (by decide), mte_up (d + 10) (by decide) (by decide) (by decide) (by decide)]
    exact mte_0 (d + 2) ok hn ne hkn h (by omega) x
  · rw [z (by decide) (by decide), mte_up (d + 10) (by decide) (by decide) (by decide) (by decide)]
    show SyM t n tr μ (RD cr2 (d + 11) 246 [71, 1, x] μ) _
    rw [mte_up (d + 9) (by decide) (by decide) (by decide) (by decide)]
    exact mte_0 (d + 1) ok hn ne hkn h (by omega) x
  · obtain ⟨μ1, g1, g2, g3⟩ := ran_e (d + 10) h (by omega) 60
    obtain ⟨μ2, f1, f2, f3⟩ := mte_0 (d + 1) ok hn ne hkn g2 (len1 (by omega)) x
    obtain ⟨μ3, e1, e2, e3⟩ := mst (d + 6) f2 (len2 (vte0_l _ _ _ _) (by omega)) hkn 2
    rw [List.append_assoc] at e2
    show SyM t n tr μ (RD cr2 (d + 12) 246 [71, 5, x] μ) (w32 ((vte0 (n : Int) (t.m n) (t.kind n) x).1 - (vst (n : Int) (t.kind n) 2).1), 60 :: ((vte0 (n : Int) (t.m n) (t.kind n) x).2 ++ (vst (n : Int) (t.kind n) 2).2))
    refine SyM.app (g := (0, (vte0 (n : Int) (t.m n) (t.kind n) x).2 ++ (vst (n : Int) (t.kind n) 2).2)) ⟨μ3, ?_, e2, f3.tr e3⟩ g3
    rw [M246, if_neg (by decide), if_pos rfl, B246_2, g1, bnd_s, above_e (d + 10) μ1 (by decide), bnd_s]
    show bnd (RD cr2 (d + 11) 246 [71, 2, x] μ1) _ = _
    rw [mte_up (d + 9) (by decide) (by decide) (by decide) (by decide)]
    show bnd (RD cr2 (d + 10) 246 [71, 0, x] μ1) _ = _
    rw [f1, bnd_s, own_e (d + 9) ok hn f2, bnd_s, e1, bnd_s]
  · obtain ⟨μ1, g1, g2, g3⟩ := ran_e (d + 10) h (by omega) 71
    obtain ⟨μ2, f1, f2, f3⟩ := mpa (d + 3) ok hn ne hkn g2 (len1 (by omega)) hkn x
    obtain ⟨μ3, e1, e2, e3⟩ := mte_0 (d + 1) ok hn ne hkn f2 (len2 (vpa_l _ _ _ _ _) (by omega)) x
    rw [List.append_assoc] at e2
    show SyM t n tr μ (RD cr2 (d + 12) 246 [71, 6, x] μ) (w32 ((vpa (n : Int) (t.m n) (t.kind n) (t.kind n) x).1 - (vte0 (n : Int) (t.m n) (t.kind n) x).1), 71 :: ((vpa (n : Int) (t.m n) (t.kind n) (t.kind n) x).2 ++ (vte0 (n : Int) (t.m n) (t.kind n) x).2))
    refine SyM.app (g := (0, (vpa (n : Int) (t.m n) (t.kind n) (t.kind n) x).2 ++ (vte0 (n : Int) (t.m n) (t.kind n) x).2)) ⟨μ3, ?_, e2, f3.tr e3⟩ g3
    rw [M246, if_neg (by decide), if_neg (by decide), if_pos rfl, B246_3, g1, bnd_s, own_e (d + 9) ok hn g2, bnd_s, f1, bnd_s, above_e (d + 10) μ2 (by decide), bnd_s]
    show bnd (RD cr2 (d + 11) 246 [71, 3, x] μ2) _ = _
    rw [mte_up (d + 9) (by decide) (by decide) (by decide) (by decide)]
    show bnd (RD cr2 (d + 10) 246 [71, 0, x] μ2) _ = _
    rw [e1, bnd_s]
theorem voice_m (d : Nat) {σ : St} {μ : amM} (ok : σ.Ok) (h : MI σ μ) (l act x : Int) : OM μ (RD cr2 (d + 20) 247 [71, l, act, x] μ) (voiceS σ l act x) := by
  have h64 := ok.t.le.2
  have no1 : OM μ (At cr2 (d + 19) 247 1 [] [71, 0, 0, 0, 0] μ) (σ.no 1) := by
    rw [B247_1]
    exact (OM.no _ ok h (by decide) (by decide)).bi (fun _ _ => rfl)
  unfold voiceS
  rw [M247, mLot_e _ ok h, bnd_s, ifb]
  refine OM.cd (fun hl => ?_) (fun _ => no1)
  obtain ⟨n, rfl, hn⟩ := isLot_n hl
  rw [in_e, bnd_s, ifb]
  refine OM.cd (fun ha => ?_) (fun _ => no1)
  obtain ⟨a, rfl, ha⟩ := wi_n ha
  rw [B247_2, mEmpty_e _ ok.t h.tm hn, bnd_s, ifb, Int.toNat_natCast]
  refine OM.cd (fun _ => (OM.no _ ok h (by decide) (by decide)).bi (fun _ _ => rfl)) (fun he => ?_)
  have ne : σ.t.kind n ≠ -1 := fun q => by rw [q] at he; cases he
  have hk := (ok.t.2 n hn).1
  have hkn : 0 ≤ σ.t.kind n ∧ σ.t.kind n < 7 := by omega
  have s2 : same (or2 hV ScM) μ (up (up μ 71 33 0) 71 34 (n : Int)) := (same.rf.up rfl).up rfl
  have f2 : same FM μ (up (up μ 71 33 0) 71 34 (n : Int)) := (same.rf.up rfl).up rfl
  have v2 : VM σ.t n [] (up (up μ 71 33 0) 71 34 (n : Int)) := ⟨⟨rfl, fun i hi => absurd hi (Nat.not_lt_zero i)⟩, rfl, h.tm.keep s2 (fun _ => rfl)⟩
  have lst : ∀ (v : Int) (μ : amM), At cr2 (d + 19) 247 7 [v] [0, 0, 0, 0, 0] μ = some (v, μ) := fun v μ => B247_7 _ v μ
  have E : ∀ {g : Int × List Int} {r : amR}, SyM σ.t n [] (up (up μ 71 33 0) 71 34 (n : Int)) r g → (∃ μ', bnd r (fun v μ1 => At cr2 (d + 19) 247 7 [v] [0, 0, 0, 0, 0] μ1) = some (g.1, μ') ∧ MI (σ.setV g.2) μ' ∧ same FM μ μ') := fun {g r} hs => by
    obtain ⟨μ5, g1, g2, g3⟩ := hs
    have sV : ∀ {S : Nat → Nat → Bool}, S 71 33 = true → (∀ i, S 90 i = true) → same S (up (up μ 71 33 0) 71 34 (n : Int)) μ5 := fun {S} e1 e2 => g3.wide (fun c i w => by
      unfold SVm
      by_cases q1 : c = 71
      · subst q1
        by_cases q2 : i = 33
        · rw [q2, e1] at w; cases w
        · rw [beq_f q2]; rfl
      · by_cases q2 : c = 90
        · rw [q2, e2] at w; cases w
        · rw [beq_f q1, beq_f q2]; rfl)
    refine ⟨μ5, by rw [g1, bnd_s, lst], h.setV ok (s2.tr (sV rfl (fun _ => rfl))) g2.1, f2.tr (sV rfl (fun _ => rfl))⟩
  rw [B247_3, wf_e, wf_e, own_e (d + 17) ok.t hn v2, bnd_s]
  unfold voiceV
  rcases (show a = 0 ∨ a = 1 ∨ a = 2 ∨ a = 3 by omega) with rfl | rfl | rfl | rfl
  · rw [if_pos (by decide), if_pos (by decide)]
    exact E (mst (d + 14) v2 (by decide) hkn x)
  · rw [if_neg (by decide), if_neg (by decide), if_pos (by decide), B247_4, if_pos (by decide)]
    exact E (mpa (d + 11) ok.t hn ne hkn v2 (by decide) hkn x)
  · rw [if_neg (by decide), if_neg (by decide), if_neg (by decide), if_pos (by decide), B247_4, if_neg (by decide), B247_5, if_pos (by decide)]
    exact E (mtu (d + 14) ok.t hn ne v2 (by decide) hkn x)
  · rw [if_neg (by decide), if_neg (by decide), if_neg (by decide), if_neg (by decide), B247_4, if_neg (by decide), B247_5, if_neg (by decide), B247_6]
    exact E (mte (d + 7) ok.t hn ne hkn v2 (by decide) hkn x)
