/-! ===== steps ===== -/
def anyF (P : Nat → Bool) : Nat → Nat → Bool
  | 0, _ => false
  | n + 1, x => P x || anyF P n (x + 1)
theorem anyF_iff {P : Nat → Bool} : ∀ (n x : Nat), anyF P n x = true ↔ ∃ y, x ≤ y ∧ y < x + n ∧ P y = true
  | 0, x => by
    constructor
    · intro h; cases h
    · rintro ⟨y, h1, h2, -⟩; omega
  | n + 1, x => by
    show (P x || anyF P n (x + 1)) = true ↔ _
    rw [Bool.or_eq_true, anyF_iff n (x + 1)]
    constructor
    · rintro (h | ⟨y, h1, h2, h3⟩)
      · exact ⟨x, by omega, by omega, h⟩
      · exact ⟨y, by omega, by omega, h3⟩
    · rintro ⟨y, h1, h2, h3⟩
      by_cases e : y = x
      · rw [e] at h3
        exact Or.inl h3
      · exact Or.inr ⟨y, by omega, by omega, h3⟩
/-- a mark of a house becomes a sort -/
def Tn.turn (t : Tn) (l k : Nat) (s : Int) : Tn := t.cod l (ws (t.code l) k s)
/-- so many changes near by, and then that of the wish: lawful behind each -/
def rc (NL : List Nat) (lot k : Nat) (s : Int) : Nat → Tn → Bool
  | 0, t => t.lawful lot k s 0
  | m + 1, t => NL.any (fun l => anyF (fun x => t.lawful l (x / 3) ((x % 3 : Nat) : Int) 0 && rc NL lot k s m (t.turn l (x / 3) ((x % 3 : Nat) : Int))) 12 0)
theorem rc_nb {NL : List Nat} {lot k : Nat} {s : Int} : ∀ (m : Nat) (t : Tn), t.bound lot = false → rc NL lot k s m t = false
  | 0, t, h => by
    show t.lawful lot k s 0 = false
    unfold Tn.lawful Tn.can
    rw [h]; rfl
  | m + 1, t, h => by
    show NL.any _ = false
    rw [List.any_eq_false]
    intro l hl w
    obtain ⟨y, -, -, h3⟩ := (anyF_iff _ _).mp w
    rw [Bool.and_eq_true, rc_nb m _ (show (t.turn l (y / 3) ((y % 3 : Nat) : Int)).bound lot = false from (cod_bound _ _ _ _).trans h)] at h3
    cases h3.2
theorem rc_perm {NL NL' : List Nat} (h : NL.Perm NL') {lot k : Nat} {s : Int} : ∀ (m : Nat) (t : Tn), rc NL lot k s m t = rc NL' lot k s m t
  | 0, _ => rfl
  | m + 1, t => by
    show NL.any _ = NL'.any _
    rw [show (fun l => anyF (fun x => t.lawful l (x / 3) ((x % 3 : Nat) : Int) 0 && rc NL lot k s m (t.turn l (x / 3) ((x % 3 : Nat) : Int))) 12 0) = (fun l => anyF (fun x => t.lawful l (x / 3) ((x % 3 : Nat) : Int) 0 && rc NL' lot k s m (t.turn l (x / 3) ((x % 3 : Nat) : Int))) 12 0) from funext fun l => by
      congr 1
      funext x
      rw [rc_perm h m]]
    rw [Bool.eq_iff_iff, List.any_eq_true, List.any_eq_true]
    constructor
    · rintro ⟨x, h1, h2⟩
      exact ⟨x, h.mem_iff.mp h1, h2⟩
    · rintro ⟨x, h1, h2⟩
      exact ⟨x, h.mem_iff.mpr h1, h2⟩
def St.stp (σ : St) (lot k : Nat) (s : Int) : Int × St := if mk (σ.t.code lot) k = s then (0, σ) else bif rc (lot :: σ.t.nb lot) lot k s 0 σ.t then (1, σ) else bif rc (lot :: σ.t.nb lot) lot k s 1 σ.t then (2, σ) else bif rc (lot :: σ.t.nb lot) lot k s 2 σ.t then (3, σ) else σ.no 2
def stepsS (σ : St) (x k s : Int) : Int × St := bif σ.t.isLot x then (bif isMS k s then (bif σ.t.kind x.toNat == -1 then σ.no 2 else (if 0 < (σ.t.wl.length : Int) then σ.no 3 else σ.stp x.toNat k.toNat s)) else σ.no 1) else σ.no 1
theorem steps_ok {σ : St} (ok : σ.Ok) (x k s : Int) : (stepsS σ x k s).2.Ok := by
  refine cd_ok (fun _ => cd_ok (fun _ => cd_ok (fun _ => ok) (fun _ => if_ok (fun _ => ok) (fun _ => ?_))) (fun _ => ok)) (fun _ => ok)
  exact if_ok (fun _ => ok) (fun _ => cd_ok (fun _ => ok) (fun _ => cd_ok (fun _ => ok) (fun _ => cd_ok (fun _ => ok) (fun _ => ok))))
theorem up_back {μ : amM} {c i : Nat} (x : Int) {v : Int} (h : μ c i = v) : up (up μ c i x) c i v = μ := by
  funext c' i'
  by_cases e : c' = c ∧ i' = i
  · rw [e.1, e.2, up_eq, h]
  · rw [up_ne _ _ _ _ (by omega), up_ne _ _ _ _ (by omega)]
theorem cod_c {t : Tn} {μ : amM} (h : TC 2 t μ) {l : Nat} (hl : l < t.lots) (ne : t.kind l ≠ -1) (c : Int) : TC 2 (t.cod l c) (up μ 5 l c) := by
  have q := h.2.1 l hl
  refine h.put (same.rf.up (SL_5 l)) ?_ (fun _ => ⟨?_, up_eq _ _ _ _⟩)
  · rw [up_ne _ _ _ _ (Or.inl (by decide))]; exact q.1
  · rw [up_ne _ _ _ _ (Or.inl (by decide))]; exact (q.2 ne).1
/-- the stepper: what it steps for -/
def SN (NL : List Nat) (lot k : Nat) (s : Int) (μ : amM) : Prop := μ 50 1 = 2 ∧ μ 50 2 = lot ∧ μ 50 3 = k ∧ μ 50 4 = s ∧ ∀ i, i < NL.length → μ 51 i = (NL.getD i 0 : Nat)
theorem SN.u {NL : List Nat} {lot k : Nat} {s : Int} {μ : amM} (h : SN NL lot k s μ) (l : Nat) (v : Int) : SN NL lot k s (up μ 5 l v) := by
  obtain ⟨a, b, c, e, f⟩ := h
  have g : ∀ c i, c ≠ 5 → up μ 5 l v c i = μ c i := fun c i hc => up_ne _ _ _ _ (Or.inl hc)
  exact ⟨(g _ _ (by decide)).trans a, (g _ _ (by decide)).trans b, (g _ _ (by decide)).trans c, (g _ _ (by decide)).trans e, fun i hi => (g _ _ (by decide)).trans (f i hi)⟩
theorem turn_ok {t : Tn} (ok : t.Ok) {l k : Nat} (hl : l < t.lots) (ne : t.kind l ≠ -1) (hk : k < 4) {s : Int} (hs : 0 ≤ s ∧ s < 4) : (t.turn l k s).Ok := cod_ok ok hl (mk_ws ((ok.2 l hl).2 ne).2.2 hk hs (j := 0) (by decide)).2
theorem step_c (d : Nat) {NL : List Nat} {lot k : Nat} {s : Int} (hk : k < 4) (hs : 0 ≤ s ∧ s < 4) (hNL : NL.length ≤ 5) : ∀ (m : Nat) (t : Tn) (μ : amM), t.Ok → lot < t.lots → (∀ l ∈ NL, l < t.lots) → NL.length = (t.nb lot).length + 1 → TC 2 t μ → SN NL lot k s μ → m < 3 → RD cr2 (d + 7 + 2 * m) 51 [50, (m : Int) + 1] μ = some (bi (rc NL lot k s m t), μ)
  | 0, t, μ, ok, hl, hN, hlen, h, hn, _ => by
    obtain ⟨n1, n2, n3, n4, n5⟩ := hn
    show RD cr2 (d + 7) 51 [50, ((0 : Nat) : Int) + 1] μ = _
    rw [M51, if_neg (by decide), n1, if_pos rfl, n2, n3, n4, isLawful_e d ok h hl hk hs, bnd_s, rb_bi]
    rfl
  | m + 1, t, μ, ok, hl, hN, hlen, h, hn, hm => by
    obtain ⟨n1, n2, n3, n4, n5⟩ := hn
    have hn : SN NL lot k s μ := ⟨n1, n2, n3, n4, n5⟩
    have h64 := ok.le.2
    have one : ∀ l, l < t.lots → ∀ x, x < 12 → RD cr2 (d + 7 + 2 * m + 1) 52 [50, (l : Int), ((x / 3 : Nat) : Int), ((x % 3 : Nat) : Int), ((m + 1 : Nat) : Int) + 1] μ = some (bi (t.lawful l (x / 3) ((x % 3 : Nat) : Int) 0 && rc NL lot k s m (t.turn l (x / 3) ((x % 3 : Nat) : Int))), μ) := fun l hll x hx => by
      have hs3 : (0 : Int) ≤ ((x % 3 : Nat) : Int) ∧ ((x % 3 : Nat) : Int) < 4 := by omega
      have il := isLawful_e (d + 1 + 2 * m) ok h hll (show x / 3 < 4 by omega) hs3 0
      rw [show d + 1 + 2 * m + 6 = d + 7 + 2 * m by omega] at il
      rw [M52, n1, if_pos rfl, il, bnd_s]
      cases q : t.lawful l (x / 3) ((x % 3 : Nat) : Int) 0 with
      | false => rw [if_pos (by rfl)]; rfl
      | true =>
        have hc := can_5 (lawful_can q)
        have cd := ((ok.2 l hll).2 hc.2.1).2.2
        have e5 : μ 5 l = t.code l := ((h.2.1 l hll).2 hc.2.1).2
        have w8 := withSort_e (d + 6 + 2 * m) (c := t.code l) (k := ((x / 3 : Nat) : Int)) (s := ((x % 3 : Nat) : Int)) μ cd (by omega) hs3
        rw [show d + 6 + 2 * m + 1 = d + 7 + 2 * m by omega, Int.toNat_natCast] at w8
        have ih := step_c d hk hs hNL m (t.turn l (x / 3) ((x % 3 : Nat) : Int)) (up μ 5 l (ws (t.code l) (x / 3) ((x % 3 : Nat) : Int))) (turn_ok ok hll hc.2.1 (by omega) hs3) hl hN hlen (cod_c h hll hc.2.1 _) (hn.u _ _) (by omega)
        rw [if_neg (by decide), B52_1, n1, if_pos rfl, rd_p (by omega) (by omega), Int.toNat_natCast, e5, if_pos rfl, w8, bnd_s, wr_p (by omega) (by omega), Int.toNat_natCast, w32_i (by omega) (by omega), show ((m + 1 : Nat) : Int) + 1 - 1 = (m : Int) + 1 by omega, ih, bnd_s, up_ne _ _ _ _ (Or.inl (by decide)), n1, if_pos rfl, wr_p (by omega) (by omega), Int.toNat_natCast, up_back _ e5, rb_bi, Bool.true_and]
    have ins : ∀ (l i : Nat), l < t.lots → i < NL.length → NL.getD i 0 = l → ∀ (n x : Nat), x + n = 12 → At cr2 (d + 7 + 2 * m + 1) 51 3 [] [50, ((m + 1 : Nat) : Int) + 1, (i : Int), (x : Int)] μ = bif anyF (fun x => t.lawful l (x / 3) ((x % 3 : Nat) : Int) 0 && rc NL lot k s m (t.turn l (x / 3) ((x % 3 : Nat) : Int))) n x then some (1, μ) else At cr2 (d + 7 + 2 * m + 1) 51 5 [] [50, ((m + 1 : Nat) : Int) + 1, (i : Int), 0] μ := fun l i hll hi hg n => by
      induction n with
      | zero =>
        intro x hx
        rw [B51_3, if_neg (by omega)]; rfl
      | succ n ih =>
        intro x hx
        have t1 : w32 ((x : Int).tdiv 3) = ((x / 3 : Nat) : Int) := by
          rw [show (x : Int).tdiv 3 = ((x / 3 : Nat) : Int) from rfl, w32_i (by omega) (by omega)]
        have t2 : (x : Int).tmod 3 = ((x % 3 : Nat) : Int) := rfl
        rw [B51_3, if_pos (by omega), rd_p (by omega) (by omega), Int.toNat_natCast, n5 i hi, hg, t1, t2, one l hll x (by omega), bnd_s]
        unfold anyF
        cases (t.lawful l (x / 3) ((x % 3 : Nat) : Int) 0 && rc NL lot k s m (t.turn l (x / 3) ((x % 3 : Nat) : Int))) with
        | true => rw [if_neg (by decide), Bool.true_or]; rfl
        | false =>
          rw [if_pos (by rfl), Bool.false_or, B51_4, w32_i (by omega) (by omega)]
          exact ih (x + 1) (by omega)
    have outs : ∀ (n i : Nat), i + n = NL.length → At cr2 (d + 7 + 2 * m + 1) 51 2 [] [50, ((m + 1 : Nat) : Int) + 1, (i : Int), 0] μ = some (bi ((NL.drop i).any (fun l => anyF (fun x => t.lawful l (x / 3) ((x % 3 : Nat) : Int) 0 && rc NL lot k s m (t.turn l (x / 3) ((x % 3 : Nat) : Int))) 12 0)), μ) := fun n => by
      induction n with
      | zero =>
        intro i hi
        have e7 : μ 7 lot = ((t.nb lot).length : Nat) := (h.2.2 lot hl).1
        rw [B51_2, n1, if_pos rfl, n2, rd_p (by omega) (by omega), Int.toNat_natCast, e7, if_pos (by omega), B51_6, List.drop_of_length_le (by omega)]
        rfl
      | succ n ih =>
        intro i hi
        have e7 : μ 7 lot = ((t.nb lot).length : Nat) := (h.2.2 lot hl).1
        have hin := ins (NL.getD i 0) i (hN _ (getD_mem 0 (by omega))) (by omega) rfl 12 0 rfl
        rw [B51_2, n1, if_pos rfl, n2, rd_p (by omega) (by omega), Int.toNat_natCast, e7, if_neg (by omega), drop_getD 0 (show i < NL.length by omega), List.any_cons]
        refine hin.trans ?_
        cases anyF (fun x => t.lawful (NL.getD i 0) (x / 3) ((x % 3 : Nat) : Int) 0 && rc NL lot k s m (t.turn (NL.getD i 0) (x / 3) ((x % 3 : Nat) : Int))) 12 0 with
        | true => rfl
        | false =>
          rw [cond_false, Bool.false_or, B51_5, w32_i (by omega) (by omega)]
          exact ih (i + 1) (by omega)
    rw [show d + 7 + 2 * (m + 1) = (d + 7 + 2 * m + 1) + 1 by omega, M51, if_pos (by omega), B51_1]
    exact outs NL.length 0 (by omega)
def SX (c i : Nat) : Bool := (Nat.beq c 50 && Nat.ble 1 i) || Nat.beq c 51
theorem SX_e {c i : Nat} (h : SX c i = true) : (c = 50 ∧ 1 ≤ i) ∨ c = 51 := by
  unfold SX at h
  rw [Bool.or_eq_true, Bool.and_eq_true] at h
  rcases h with ⟨h1, h2⟩ | h
  · exact Or.inl ⟨Nat.eq_of_beq_eq_true h1, Nat.le_of_ble_eq_true h2⟩
  · exact Or.inr (Nat.eq_of_beq_eq_true h)

theorem SX_Sc {μ μ' : amM} (h : same SX μ μ') : same (or2 g0 ScC) μ μ' := h.wide (fun c i q => by
  have q := or2_r q
  cases e : SX c i with
  | false => rfl
  | true =>
    rcases SX_e e with ⟨rfl, e2⟩ | rfl
    · unfold ScC at q
      rw [show Nat.ble 1 i = true from ble_t e2] at q
      cases q
    · cases q)
theorem cr50 {i : Nat} (h : 1 ≤ i) : cr2 50 i = none := by
  match i, h with
  | n + 1, _ => rfl
theorem SX_F {μ μ' : amM} (h : same SX μ μ') : same FC μ μ' := h.wide (fun c i q => by
  cases e : SX c i with
  | false => rfl
  | true =>
    rcases SX_e e with ⟨rfl, e2⟩ | rfl
    · unfold FC at q
      rw [cr50 e2] at q
      cases q
    · cases q)
theorem TC.kx {t : Tn} {μ μ' : amM} (h : TC 2 t μ) (hs : same SX μ μ') : TC 2 t μ' := h.keep hs (fun i _ _ => rfl) (fun _ => rfl) (fun _ => rfl) (fun _ => rfl) (fun _ => rfl) (fun _ => rfl)
theorem step50_e (d : Nat) {t : Tn} {μ : amM} (ok : t.Ok) (h : TC 2 t μ) {lot k : Nat} (hl : lot < t.lots) (ne : t.kind lot ≠ -1) (hk : k < 4) {s : Int} (hs : 0 ≤ s ∧ s < 4) : ∃ μ', RD cr2 (d + 12) 50 [50, 2, (lot : Int), (k : Int), s] μ = some ((if mk (t.code lot) k = s then 0 else bif rc (lot :: t.nb lot) lot k s 0 t then 1 else bif rc (lot :: t.nb lot) lot k s 1 t then 2 else bif rc (lot :: t.nb lot) lot k s 2 t then 3 else -1), μ') ∧ same SX μ μ' := by
  have h64 := ok.le.2
  have cd := ((ok.2 lot hl).2 ne).2.2
  have nbl := ok.nbs hl
  have s4 : same SX μ (up (up (up (up μ 50 1 2) 50 2 (lot : Int)) 50 3 (k : Int)) 50 4 s) := (((same.rf.up rfl).up rfl).up rfl).up rfl
  have h4 := h.kx s4
  have f1 : up (up (up (up μ 50 1 2) 50 2 (lot : Int)) 50 3 (k : Int)) 50 4 s 50 1 = 2 := rfl
  have f2 : up (up (up (up μ 50 1 2) 50 2 (lot : Int)) 50 3 (k : Int)) 50 4 s 50 2 = (lot : Int) := rfl
  have f3 : up (up (up (up μ 50 1 2) 50 2 (lot : Int)) 50 3 (k : Int)) 50 4 s 50 3 = (k : Int) := rfl
  have f4 : up (up (up (up μ 50 1 2) 50 2 (lot : Int)) 50 3 (k : Int)) 50 4 s 50 4 = s := rfl
  have e5 := ((h4.2.1 lot hl).2 ne).2
  rw [M50, wf_e, wf_e, wf_e, wf_e, f1, if_pos rfl, f2, rd_p (by omega) (by omega), Int.toNat_natCast, e5, f3, sortAt_e _ _ cd (by omega), bnd_s, f4, Int.toNat_natCast]
  by_cases q : mk (t.code lot) k = s
  · rw [if_pos q, if_pos q]
    exact ⟨_, rfl, s4⟩
  · rw [if_neg q, if_neg q, B50_1, f1, if_pos rfl, f2, f3, f4, canChange_e _ ok h4 hl hk, bnd_s]
    have ec : t.can lot k s = t.bound lot := by
      unfold Tn.can
      rw [beq_false_of_ne q]
      cases t.bound lot <;> rfl
    rw [ec]
    cases hb : t.bound lot with
    | false =>
      rw [if_pos (by rfl), rc_nb _ _ hb, rc_nb _ _ hb, rc_nb _ _ hb]
      exact ⟨_, rfl, s4⟩
    | true =>
      have s5 : same SX μ (up (up (up (up (up μ 50 1 2) 50 2 (lot : Int)) 50 3 (k : Int)) 50 4 s) 51 0 (lot : Int)) := s4.up rfl
      have h5 := h.kx s5
      have e7 := (h5.2.2 lot hl).1
      have g1 : up (up (up (up (up μ 50 1 2) 50 2 (lot : Int)) 50 3 (k : Int)) 50 4 s) 51 0 (lot : Int) 50 1 = 2 := rfl
      have g2 : up (up (up (up (up μ 50 1 2) 50 2 (lot : Int)) 50 3 (k : Int)) 50 4 s) 51 0 (lot : Int) 50 2 = (lot : Int) := rfl
      rw [if_neg (by decide), B50_2, wf_e, f2, g1, if_pos rfl, if_pos rfl, g2, rd_p (by omega) (by omega), Int.toNat_natCast, e7, w32_i (by omega) (by omega), cpy_p ⟨by decide, by decide⟩ ⟨by omega, by decide, by omega, show (lot : Int) * 4 + ((t.nb lot).length : Int) ≤ 256 by omega, show (1 : Int) + ((t.nb lot).length : Int) ≤ 5 by omega⟩]
      generalize hμ6 : upr _ _ _ = μ6
      have s6 : same SX μ μ6 := by
        rw [← hμ6]
        exact s5.upr (fun i => rfl)
      have h6 := h.kx s6
      have hn : SN (lot :: t.nb lot) lot k s μ6 := by
        have g : ∀ i, μ6 50 i = up (up (up (up (up μ 50 1 2) 50 2 (lot : Int)) 50 3 (k : Int)) 50 4 s) 51 0 (lot : Int) 50 i := fun i => by
          rw [← hμ6, upr_ne _ _ _ (by decide)]
        refine ⟨(g 1).trans g1, (g 2).trans g2, (g 3).trans rfl, (g 4).trans rfl, fun i hi => ?_⟩
        rw [← hμ6, show ((51 : Int)).toNat = 51 from rfl, upr_eq]
        match i, hi with
        | 0, _ =>
          rw [if_neg (fun w => absurd w.1 (by decide))]
          rfl
        | j + 1, hi =>
          have hj : j < (t.nb lot).length := by
            rw [List.length_cons] at hi
            omega
          rw [if_pos ⟨by show 1 ≤ j + 1; omega, by
            show j + 1 < 1 + ((t.nb lot).length : Int).toNat
            omega⟩, show ((lot : Int) * 4).toNat = 4 * lot by omega]
          exact (h5.2.2 lot hl).2 j hj
      have hN : ∀ l ∈ (lot :: t.nb lot), l < t.lots := fun l hm => by
        rcases List.mem_cons.mp hm with e | e
        · rw [e]; exact hl
        · exact (nbl.2 l e).1
      have hlen : (lot :: t.nb lot).length = (t.nb lot).length + 1 := rfl
      have r0 := step_c (d + 4) hk hs (NL := lot :: t.nb lot) (by omega) 0 t μ6 ok hl hN hlen h6 hn (by decide)
      have r1 := step_c (d + 2) hk hs (NL := lot :: t.nb lot) (by omega) 1 t μ6 ok hl hN hlen h6 hn (by decide)
      have r2 := step_c d hk hs (NL := lot :: t.nb lot) (by omega) 2 t μ6 ok hl hN hlen h6 hn (by decide)
      have r0 : RD cr2 (d + 11) 51 [50, 1] μ6 = _ := r0
      have r1 : RD cr2 (d + 11) 51 [50, 2] μ6 = _ := r1
      have r2 : RD cr2 (d + 11) 51 [50, 3] μ6 = _ := r2
      refine ⟨μ6, ?_, s6⟩
      rw [B50_3, if_neg (by decide), r0, bnd_s]
      cases rc (lot :: t.nb lot) lot k s 0 t with
      | true => rw [if_neg (by decide)]; rfl
      | false =>
        rw [if_pos (by rfl), B50_4, show w32 (1 + 1) = 2 from by decide, B50_3, if_neg (by decide), r1, bnd_s]
        cases rc (lot :: t.nb lot) lot k s 1 t with
        | true => rw [if_neg (by decide)]; rfl
        | false =>
          rw [if_pos (by rfl), B50_4, show w32 (2 + 1) = 3 from by decide, B50_3, if_neg (by decide), r2, bnd_s]
          cases rc (lot :: t.nb lot) lot k s 2 t with
          | true => rw [if_neg (by decide)]; rfl
          | false =>
            rw [if_pos (by rfl), B50_4, show w32 (3 + 1) = 4 from by decide, B50_3, if_pos (by decide), B50_5]
            rfl
theorem steps_c (d : Nat) {σ : St} {μ : amM} (ok : σ.Ok) (h : CI σ μ) (x k s : Int) : OC μ (RD cr2 (d + 20) 114 [0, x, k, s] μ) (stepsS σ x k s) := by
  have no1 : OC μ (At cr2 (d + 19) 114 1 [] [0, 0, 0, 0, 0] μ) (σ.no 1) := by
    rw [B114_1]
    exact (OC.no _ h (by decide) (by decide)).bi (fun _ _ => rfl)
  unfold stepsS
  rw [M114, isLot_e _ ok h, bnd_s, ifb]
  refine OC.cd (fun hl => ?_) (fun _ => no1)
  rw [isMS_e, bnd_s, ifb]
  refine OC.cd (fun hm => ?_) (fun _ => no1)
  obtain ⟨n, rfl, hn⟩ := isLot_n hl
  obtain ⟨a, b, rfl, rfl, ha, hb⟩ := isMS_n hm
  rw [B114_2, isEmpty_e _ ok h hn, bnd_s, Int.toNat_natCast, Int.toNat_natCast, ifb]
  refine OC.cd (fun _ => (OC.no _ h (by decide) (by decide)).bi (fun _ _ => rfl)) (fun hk => ?_)
  have ne : σ.t.kind n ≠ -1 := fun e => by rw [e] at hk; cases hk
  obtain ⟨μ1, a1, a2, a3⟩ := listWrong_e (d + 14) ok.t h.tc
  have h1 : CI σ μ1 := h.set0 (S8_Sc a3)
  rw [B114_3]
  refine OC.bs a1 (OC.tr ?_ (S8_F a3))
  by_cases q : 0 < (σ.t.wl.length : Int)
  · rw [if_pos q, if_pos q]
    exact (OC.no _ h1 (by decide) (by decide)).bi (fun _ _ => rfl)
  · obtain ⟨μ2, b1, b2⟩ := step50_e (d + 7) ok.t h1.tc hn ne ha (s := (b : Int)) (by omega)
    have h2 : CI σ μ2 := h1.set0 (SX_Sc b2)
    rw [if_neg q, if_neg q, B114_4]
    refine OC.bs b1 (OC.tr ?_ (SX_F b2))
    have yes : ∀ v : Int, v ≠ -1 → OC μ2 (if v = -1 then bnd (RD cr2 (d + 19) 141 [0, 2] μ2) (fun v2 μ2 => At cr2 (d + 19) 114 6 [v2] [0, 0, 0, 0, 0] μ2) else At cr2 (d + 19) 114 5 [] [0, 0, 0, 0, v] μ2) (v, σ) := fun v hv => by
      rw [if_neg hv, B114_5, B114_6]
      exact OC.rt h2
    unfold St.stp
    by_cases q1 : mk (σ.t.code n) a = (b : Int)
    · rw [if_pos q1, if_pos q1]
      exact yes 0 (by decide)
    · rw [if_neg q1, if_neg q1]
      cases rc (n :: σ.t.nb n) n a b 0 σ.t with
      | true => exact yes 1 (by decide)
      | false =>
        cases rc (n :: σ.t.nb n) n a b 1 σ.t with
        | true => exact yes 2 (by decide)
        | false =>
          cases rc (n :: σ.t.nb n) n a b 2 σ.t with
          | true => exact yes 3 (by decide)
          | false =>
            show OC μ2 (if (-1 : Int) = -1 then _ else _) (σ.no 2)
            rw [if_pos rfl]
            exact (OC.no _ h2 (by decide) (by decide)).bi (fun _ _ => by rw [B114_6])
