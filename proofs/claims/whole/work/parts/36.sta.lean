/-! ===== texts: how they are read, what they are worth ===== -/
def sg (lv : Nat) (c : Int) : Bool :=
  match lv with
  | 0 => c == 124
  | 1 => c == 38
  | 2 => c == 60 || c == 61 || c == 62
  | 3 => c == 43 || c == 45
  | _ => c == 42 || c == 47 || c == 37
def nmo (use : Nat) (c : Int) : Int :=
  if use = 0 then (if c = 107 then 0 else if c = 109 then 1 else -1) else (if c = 99 then 0 else if c = 114 then 1 else if c = 100 then 2 else if c = 118 then 3 else -1)
def hd (l : List Int) : Int := l.headD (-1)
def rdn : Nat → Int → List Int → Int × List Int
  | 0, v, l => (v, l)
  | _ + 1, v, [] => (v, [])
  | k + 1, v, c :: l => if 48 ≤ c ∧ c ≤ 57 then rdn k (10 * v + c - 48) l else (v, c :: l)
def lp (g : List Int → Bool × List Int × List Int) (lv : Nat) : Nat → List Int → List Int → Bool × List Int × List Int
  | 0, l, p => (true, l, p)
  | n + 1, l, p => if sg lv (hd l) then (if (g l.tail).1 then lp g lv n (g l.tail).2.1 (p ++ (g l.tail).2.2 ++ [20000 + hd l]) else (false, (g l.tail).2.1, p ++ (g l.tail).2.2)) else (true, l, p)
def pl (use : Nat) : Nat → Nat → Nat → List Int → Bool × List Int × List Int
  | 0, _, _, l => (false, l, [])
  | f + 1, lv, op, l =>
    if 5 ≤ lv then
      (if 48 ≤ hd l ∧ hd l ≤ 57 then (true, (rdn 4 0 l).2, [(rdn 4 0 l).1])
       else if nmo use (hd l) ≠ -1 then (true, l.tail, [10000 + nmo use (hd l)])
       else if (hd l ≠ 33 ∧ hd l ≠ 40) ∨ 5 ≤ op then (false, l, [])
       else if hd l = 33 then (if (pl use f 5 (op + 1) l.tail).1 then (true, (pl use f 5 (op + 1) l.tail).2.1, (pl use f 5 (op + 1) l.tail).2.2 ++ [20033]) else pl use f 5 (op + 1) l.tail)
       else (if (pl use f 0 (op + 1) l.tail).1 = true ∧ hd (pl use f 0 (op + 1) l.tail).2.1 = 41 then (true, (pl use f 0 (op + 1) l.tail).2.1.tail, (pl use f 0 (op + 1) l.tail).2.2) else (false, (pl use f 0 (op + 1) l.tail).2)))
    else (if (pl use f (lv + 1) op l).1 then lp (pl use f (lv + 1) op) lv (if lv = 2 then 1 else 50) (pl use f (lv + 1) op l).2.1 (pl use f (lv + 1) op l).2.2 else pl use f (lv + 1) op l)
/-- the parts of a text -/
def cmp (use : Nat) (l : List Int) : List Int := (pl use 60 0 0 l).2.2
def wrk (s a b : Int) : Int :=
  if s = 124 then (if a ≠ 0 ∨ b ≠ 0 then 1 else 0) else if s = 38 then (if a ≠ 0 ∧ b ≠ 0 then 1 else 0) else if s = 60 then (if a < b then 1 else 0) else if s = 61 then (if a = b then 1 else 0) else if s = 62 then (if b < a then 1 else 0)
  else if s = 43 then w32 (a + b) else if s = 45 then w32 (a - b) else if s = 42 then w32 (a * b) else if s = 47 then (if b = 0 then 0 else w32 (a.tdiv b)) else (if b = 0 then 0 else a.tmod b)
/-- what stands on the stack behind the parts -/
def evl (nv : Nat → Int) : List Int → List Int → List Int
  | [], st => st
  | p :: l, st => evl nv l (if p < 20000 then (if p < 10000 then p else nv (p - 10000).toNat) :: st else if p = 20033 then (match st with | x :: r => (if x = 0 then 1 else 0) :: r | [] => []) else (match st with | y :: x :: r => wrk (p - 20000) x y :: r | r => r))
def nv4 (a b c d : Int) (k : Nat) : Int := match k with | 0 => a | 1 => b | 2 => c | _ => d
/-- what a text gives -/
def txv (use : Nat) (l : List Int) (a b c d : Int) : Int := (evl (nv4 a b c d) (cmp use l) []).headD 0
/-! ===== the state that both hold ===== -/
def K : Type := Tn × (Nat × (Nat → Int)) × (Nat × (Nat → Int)) × (List Int × List Int) × Int × Int × Int
def K.t (k : K) : Tn := k.1
def K.nb (k : K) : Nat := k.2.1.1
def K.tp (k : K) : Nat → Int := k.2.1.2
def K.nw (k : K) : Nat := k.2.2.1.1
def K.wt (k : K) : Nat → Int := k.2.2.1.2
def K.x0 (k : K) : List Int := k.2.2.2.1.1
def K.x1 (k : K) : List Int := k.2.2.2.1.2
def K.y (k : K) : Int := k.2.2.2.2.1
def K.s (k : K) : Int := k.2.2.2.2.2.1
def K.z (k : K) : Int := k.2.2.2.2.2.2
def i32 (x : Int) : Prop := -2147483648 ≤ x ∧ x < 2147483648
def TOk (use : Nat) (l : List Int) : Prop := l.length ≤ 50 ∧ (∀ c ∈ l, 0 ≤ c ∧ c < 256) ∧ (l = [] ∨ ((pl use 60 0 0 l).1 = true ∧ (pl use 60 0 0 l).2.1 = []))
def K.Ok (k : K) : Prop := k.t.Ok ∧ (k.nb ≤ 50 ∧ ∀ i, i < k.nb → 0 ≤ k.tp i ∧ k.tp i < 256) ∧ (k.nw ≤ 20) ∧ (TOk 0 k.x0 ∧ TOk 1 k.x1) ∧ (0 ≤ k.y ∧ k.y ≤ 9999) ∧ (0 ≤ k.s ∧ k.s ≤ 999999) ∧ i32 k.z
def St : Type := K × K × Int × (Nat → Int) × ((Nat → Int) × (Nat → Nat) × (Nat → Nat → Int)) × List Int
def St.k (σ : St) : K := σ.1
def St.q (σ : St) : K := σ.2.1
def St.img (σ : St) : Int := σ.2.2.1
def St.rf (σ : St) : Nat → Int := σ.2.2.2.1
def St.sb (σ : St) : Nat → Int := σ.2.2.2.2.1.1
def St.ss (σ : St) : Nat → Nat := σ.2.2.2.2.1.2.1
def St.sn (σ : St) : Nat → Nat → Int := σ.2.2.2.2.1.2.2
def St.tr (σ : St) : List Int := σ.2.2.2.2.2
def St.t (σ : St) : Tn := σ.k.t
def St.Ok (σ : St) : Prop := σ.k.Ok ∧ (σ.img ≠ 0 → σ.q.Ok) ∧ (∀ k, k < 4 → (σ.sb k = 0 ∨ σ.sb k = 8 ∨ σ.sb k = 16 ∨ σ.sb k = 32) ∧ σ.ss k ≤ 64) ∧ σ.tr.length ≤ 40
def fset (f : Nat → Int) (k : Nat) (v : Int) : Nat → Int := fun i => if i = k then v else f i
/-- what an act puts in the place of a part of the state -/
def St.setT (σ : St) (t : Tn) : St := ((t, σ.1.2), σ.2)
def St.setX (σ : St) (n : Nat) (f : Nat → Int) : St := ((σ.1.1, (n, f), σ.1.2.2), σ.2)
def St.setW (σ : St) (n : Nat) (f : Nat → Int) : St := ((σ.1.1, σ.1.2.1, (n, f), σ.1.2.2.2), σ.2)
def St.setP (σ : St) (l0 l1 : List Int) : St := ((σ.1.1, σ.1.2.1, σ.1.2.2.1, (l0, l1), σ.1.2.2.2.2), σ.2)
def St.setY (σ : St) (y s z : Int) : St := ((σ.1.1, σ.1.2.1, σ.1.2.2.1, σ.1.2.2.2.1, (y, s, z)), σ.2)
def St.setR (σ : St) (f : Nat → Int) : St := (σ.1, σ.2.1, σ.2.2.1, f, σ.2.2.2.2)
def St.setH (σ : St) (b : Nat → Int) (s : Nat → Nat) (n : Nat → Nat → Int) : St := (σ.1, σ.2.1, σ.2.2.1, σ.2.2.2.1, (b, s, n), σ.2.2.2.2.2)
def St.setV (σ : St) (l : List Int) : St := (σ.1, σ.2.1, σ.2.2.1, σ.2.2.2.1, σ.2.2.2.2.1, l)
def St.ref (σ : St) (k : Nat) : St := σ.setR (fset σ.rf k (w32 (σ.rf k + 1)))
/-! ===== the class holds it ===== -/
def PX (b : Nat) (n : Nat) (f : Nat → Int) (μ : amM) : Prop := μ b 4 = n ∧ ∀ i, i < n → μ (b + 10) i = f i
def PW (b : Nat) (n : Nat) (f : Nat → Int) (μ : amM) : Prop := μ b 5 = n ∧ ∀ i, i < n → μ (b + 11) i = f i
def TX (c use : Nat) (l : List Int) (μ : amM) : Prop := μ c 2 = ((cmp use l).length : Nat) ∧ ∀ i, i < (cmp use l).length → μ (c + 1) i = (cmp use l).getD i 0
def PS (b : Nat) (y s z : Int) (μ : amM) : Prop := μ b 6 = y ∧ μ b 7 = s ∧ μ b 8 = z
def CK (b : Nat) (k : K) (μ : amM) : Prop := TC (b + 1) k.t μ ∧ PX b k.nb k.tp μ ∧ PW b k.nw k.wt μ ∧ (TX (b + 12) 0 k.x0 μ ∧ TX (b + 15) 1 k.x1 μ) ∧ PS b k.y k.s k.z μ
def PH (b : Nat → Int) (s : Nat → Nat) (n : Nat → Nat → Int) (μ : amM) : Prop := ∀ k, k < 4 → μ (63 + 2 * k) 1 = b k ∧ μ (63 + 2 * k) 2 = s k ∧ ∀ i, i < s k → μ (64 + 2 * k) i = n k i
def PV (l : List Int) (μ : amM) : Prop := μ 59 1 = (l.length : Nat) ∧ ∀ i, i < l.length → μ 60 i = l.getD i 0
def PY (μ : amM) : Prop := ((μ 55 1 = 57 ∧ μ 55 2 = 58) ∨ (μ 55 1 = 58 ∧ μ 55 2 = 57)) ∧ ∀ h : Nat, h < 81 → μ 56 h = hc h
def PR (c : Nat) (f : Nat → Int) (μ : amM) : Prop := ∀ k, k < 6 → μ c k = f k
def CI (σ : St) (μ : amM) : Prop := CK 1 σ.k μ ∧ (σ.img ≠ 0 → CK 19 σ.q μ) ∧ μ 0 10 = σ.img ∧ PR 62 σ.rf μ ∧ PH σ.sb σ.ss σ.sn μ ∧ PV σ.tr μ ∧ PY μ
theorem TC.keep {b : Nat} {t : Tn} {μ μ' : amM} {S : Nat → Nat → Bool} (h : TC b t μ) (hs : same S μ μ') (h1 : ∀ i, 7 ≤ i → i ≤ 12 → S b i = false) (h2 : ∀ i, S (b + 1) i = false) (h3 : ∀ i, S (b + 2) i = false) (h4 : ∀ i, S (b + 3) i = false) (h5 : ∀ i, S (b + 4) i = false) (h6 : ∀ i, S (b + 5) i = false) : TC b t μ' := by
  obtain ⟨⟨a1, a2, a3, a4, a5, a6⟩, b1, c1⟩ := h
  have q : ∀ i, 7 ≤ i → i ≤ 12 → μ' b i = μ b i := fun i g1 g2 => hs _ _ (h1 i g1 g2)
  refine ⟨⟨by rw [q _ (by decide) (by decide)]; exact a1, by rw [q _ (by decide) (by decide)]; exact a2, by rw [q _ (by decide) (by decide)]; exact a3, by rw [q _ (by decide) (by decide)]; exact a4, by rw [q _ (by decide) (by decide)]; exact a5, by rw [q _ (by decide) (by decide)]; exact a6⟩, fun lot hl => ?_, fun lot hl => ?_⟩
  · rw [hs _ _ (h2 _), hs _ _ (h3 _), hs _ _ (h4 _)]
    exact b1 lot hl
  · rw [hs _ _ (h6 _)]
    exact ⟨(c1 lot hl).1, fun i hi => by rw [hs _ _ (h5 _)]; exact (c1 lot hl).2 i hi⟩
theorem PX.keep {b n : Nat} {f : Nat → Int} {μ μ' : amM} {S : Nat → Nat → Bool} (h : PX b n f μ) (hs : same S μ μ') (h1 : S b 4 = false) (h2 : ∀ i, S (b + 10) i = false) : PX b n f μ' := ⟨(hs _ _ h1).trans h.1, fun i hi => (hs _ _ (h2 i)).trans (h.2 i hi)⟩
theorem PW.keep {b n : Nat} {f : Nat → Int} {μ μ' : amM} {S : Nat → Nat → Bool} (h : PW b n f μ) (hs : same S μ μ') (h1 : S b 5 = false) (h2 : ∀ i, S (b + 11) i = false) : PW b n f μ' := ⟨(hs _ _ h1).trans h.1, fun i hi => (hs _ _ (h2 i)).trans (h.2 i hi)⟩
theorem TX.keep {c u : Nat} {l : List Int} {μ μ' : amM} {S : Nat → Nat → Bool} (h : TX c u l μ) (hs : same S μ μ') (h1 : S c 2 = false) (h2 : ∀ i, S (c + 1) i = false) : TX c u l μ' := ⟨(hs _ _ h1).trans h.1, fun i hi => (hs _ _ (h2 i)).trans (h.2 i hi)⟩
theorem PS.keep {b : Nat} {y s z : Int} {μ μ' : amM} {S : Nat → Nat → Bool} (h : PS b y s z μ) (hs : same S μ μ') (h1 : S b 6 = false) (h2 : S b 7 = false) (h3 : S b 8 = false) : PS b y s z μ' := ⟨(hs _ _ h1).trans h.1, (hs _ _ h2).trans h.2.1, (hs _ _ h3).trans h.2.2⟩
theorem CK.keep {b : Nat} {k : K} {μ μ' : amM} {S : Nat → Nat → Bool} (h : CK b k μ) (hs : same S μ μ') (h1 : ∀ i, 4 ≤ i → S b i = false) (h0 : ∀ i, 7 ≤ i → S (b + 1) i = false) (h2 : ∀ j, 2 ≤ j → j ≤ 6 → ∀ i, S (b + j) i = false) (h3 : ∀ i, S (b + 10) i = false) (h4 : ∀ i, S (b + 11) i = false) (h5 : S (b + 12) 2 = false) (h6 : ∀ i, S (b + 13) i = false) (h7 : S (b + 15) 2 = false) (h8 : ∀ i, S (b + 16) i = false) : CK b k μ' := by
  obtain ⟨a1, a2, a3, ⟨a4, a5⟩, a6⟩ := h
  exact ⟨a1.keep hs (fun i g _ => h0 i g) (h2 2 (by decide) (by decide)) (h2 3 (by decide) (by decide)) (h2 4 (by decide) (by decide)) (h2 5 (by decide) (by decide)) (h2 6 (by decide) (by decide)), a2.keep hs (h1 _ (by decide)) h3, a3.keep hs (h1 _ (by decide)) h4, ⟨a4.keep hs h5 h6, a5.keep hs h7 h8⟩, a6.keep hs (h1 _ (by decide)) (h1 _ (by decide)) (h1 _ (by decide))⟩
theorem PR.keep {c : Nat} {f : Nat → Int} {μ μ' : amM} {S : Nat → Nat → Bool} (h : PR c f μ) (hs : same S μ μ') (h1 : ∀ i, S c i = false) : PR c f μ' := fun k hk => (hs _ _ (h1 _)).trans (h k hk)
theorem PH.keep {b : Nat → Int} {s : Nat → Nat} {n : Nat → Nat → Int} {μ μ' : amM} {S : Nat → Nat → Bool} (h : PH b s n μ) (hs : same S μ μ') (h1 : ∀ c i, 63 ≤ c → c ≤ 70 → S c i = false) : PH b s n μ' := fun k hk => ⟨(hs _ _ (h1 _ _ (by omega) (by omega))).trans (h k hk).1, (hs _ _ (h1 _ _ (by omega) (by omega))).trans (h k hk).2.1, fun i hi => (hs _ _ (h1 _ _ (by omega) (by omega))).trans ((h k hk).2.2 i hi)⟩
theorem PV.keep {l : List Int} {μ μ' : amM} {S : Nat → Nat → Bool} (h : PV l μ) (hs : same S μ μ') (h1 : S 59 1 = false) (h2 : ∀ i, S 60 i = false) : PV l μ' := ⟨(hs _ _ h1).trans h.1, fun i hi => (hs _ _ (h2 i)).trans (h.2 i hi)⟩
theorem PY.keep {μ μ' : amM} {S : Nat → Nat → Bool} (h : PY μ) (hs : same S μ μ') (h1 : S 55 1 = false) (h2 : S 55 2 = false) (h3 : ∀ i, S 56 i = false) : PY μ' := by
  obtain ⟨a, b⟩ := h
  refine ⟨?_, fun i hi => (hs _ _ (h3 i)).trans (b i hi)⟩
  rw [hs _ _ h1, hs _ _ h2]
  exact a
