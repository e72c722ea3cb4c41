/-! ===== houses turned into one another ===== -/
def add3 (f a : Nat) : Nat := 27 * ((f / 27 + a / 27) % 3) + 9 * ((f / 9 % 3 + a / 9 % 3) % 3) + 3 * ((f / 3 % 3 + a / 3 % 3) % 3) + (f % 3 + a % 3) % 3
theorem dig4 {p q r s : Nat} (hp : p < 3) (hq : q < 3) (hr : r < 3) (hs : s < 3) : 27 * p + 9 * q + 3 * r + s < 81 ∧ (27 * p + 9 * q + 3 * r + s) / 27 = p ∧ (27 * p + 9 * q + 3 * r + s) / 9 % 3 = q ∧ (27 * p + 9 * q + 3 * r + s) / 3 % 3 = r ∧ (27 * p + 9 * q + 3 * r + s) % 3 = s := by
  refine ⟨by omega, by omega, ?_, ?_, by omega⟩
  · rw [show (27 * p + 9 * q + 3 * r + s) / 9 = 3 * p + q by omega]; omega
  · rw [show (27 * p + 9 * q + 3 * r + s) / 3 = 9 * p + 3 * q + r by omega]; omega
theorem m3 (x : Nat) : x % 3 < 3 := Nat.mod_lt _ (by decide)
theorem add3_lt (f a : Nat) : add3 f a < 81 := (dig4 (m3 _) (m3 _) (m3 _) (m3 _)).1
theorem add3_d (f a : Nat) : add3 f a / 27 = (f / 27 + a / 27) % 3 ∧ add3 f a / 9 % 3 = (f / 9 % 3 + a / 9 % 3) % 3 ∧ add3 f a / 3 % 3 = (f / 3 % 3 + a / 3 % 3) % 3 ∧ add3 f a % 3 = (f % 3 + a % 3) % 3 := (dig4 (m3 _) (m3 _) (m3 _) (m3 _)).2
def dg (x k : Nat) : Nat := match k with | 0 => x / 27 | 1 => x / 9 % 3 | 2 => x / 3 % 3 | _ => x % 3
theorem mk_dg {x : Nat} (hx : x < 81) {k : Nat} (hk : k < 4) : mk (hc (x : Int)) k = (dg x k : Int) := by
  have q := mk_hc (h := (x : Int)) ⟨by omega, by omega⟩
  match k, hk with
  | 0, _ => exact q.1
  | 1, _ => exact q.2.1
  | 2, _ => exact q.2.2.1
  | 3, _ => exact q.2.2.2
theorem al1_dg {x y : Nat} (hx : x < 81) (hy : y < 81) {k : Nat} (hk : k < 4) : al1 (hc (x : Int)) (hc (y : Int)) k = if dg x k = dg y k then 1 else 0 := by
  rw [al1_hc (h := (x : Int)) ⟨by omega, by omega⟩ hk, mk_dg hx hk, mk_dg hy hk]
  by_cases q : dg x k = dg y k
  · rw [if_pos q, if_pos (by omega)]
  · rw [if_neg q, if_neg (by omega)]
theorem dg_R {x : Nat} (hx : x < 81) (k : Nat) : dg x k < 3 := by
  unfold dg
  split <;> omega
theorem dg_add {f a : Nat} (hf : f < 81) (ha : a < 81) {k : Nat} (hk : k < 4) : dg (add3 f a) k = (dg f k + dg a k) % 3 := by
  have q := add3_d f a
  match k, hk with
  | 0, _ => exact q.1
  | 1, _ => exact q.2.1
  | 2, _ => exact q.2.2.1
  | 3, _ => exact q.2.2.2
theorem alk_add {f a b : Nat} (hf : f < 81) (ha : a < 81) (hb : b < 81) : alk (hc (add3 f a : Nat)) (hc (add3 f b : Nat)) = alk (hc (a : Int)) (hc (b : Int)) := by
  have e : ∀ k, k < 4 → al1 (hc (add3 f a : Nat)) (hc (add3 f b : Nat)) k = al1 (hc (a : Int)) (hc (b : Int)) k := fun k hk => by
    rw [al1_dg (add3_lt f a) (add3_lt f b) hk, al1_dg ha hb hk, dg_add hf ha hk, dg_add hf hb hk]
    have h1 := dg_R hf k
    have h2 := dg_R ha k
    have h3 := dg_R hb k
    by_cases q : dg a k = dg b k
    · rw [if_pos q, q, if_pos rfl]
    · rw [if_neg q, if_neg (by omega)]
  unfold alk
  rw [e 0 (by decide), e 1 (by decide), e 2 (by decide), e 3 (by decide)]
theorem alk_comm (x y : Int) : alk x y = alk y x := by
  have e : ∀ k, al1 x y k = al1 y x k := fun k => by
    unfold al1
    by_cases q : mk x k = mk y k
    · rw [q]
    · rw [if_neg (fun w => q w.2), if_neg (fun w => q w.2.symm)]
  unfold alk
  rw [e, e, e, e]
theorem go_add (t : Tn) {f a b : Nat} (hf : f < 81) (ha : a < 81) (hb : b < 81) : t.go (hc (add3 f a : Nat)) (hc (add3 f b : Nat)) = t.go (hc (a : Int)) (hc (b : Int)) := by
  unfold Tn.go
  rw [alk_add hf ha hb]
theorem go_comm (t : Tn) (x y : Int) : t.go x y = t.go y x := by
  unfold Tn.go
  rw [alk_comm]
theorem add3_n0 : ((List.range 81).all fun f => add3 f 0 == f) = true := by decide +kernel
theorem add3_0 {f : Nat} (hf : f < 81) : add3 f 0 = f := eq_of_beq (List.all_eq_true.mp add3_n0 f (List.mem_range.mpr hf))
theorem add3_nf : ((List.range 81).all fun f => (List.range 81).all fun b => (add3 f b == f) == (b == 0)) = true := by decide +kernel
theorem add3_f {f b : Nat} (hf : f < 81) (hb : b < 81) : add3 f b = f ↔ b = 0 := by
  have e := eq_of_beq (List.all_eq_true.mp (List.all_eq_true.mp add3_nf f (List.mem_range.mpr hf)) b (List.mem_range.mpr hb))
  constructor
  · intro h
    rw [h, beq_self_eq_true] at e
    exact eq_of_beq e.symm
  · intro h
    rw [h] at e ⊢
    exact eq_of_beq e
/-! sums over the houses -/
def sm : Nat → (Nat → Int) → Int
  | 0, _ => 0
  | n + 1, f => sm n f + f n
theorem sm_congr {f g : Nat → Int} : ∀ n, (∀ i, i < n → f i = g i) → sm n f = sm n g
  | 0, _ => rfl
  | n + 1, h => by
    show sm n f + f n = sm n g + g n
    rw [sm_congr n (fun i hi => h i (by omega)), h n (by omega)]
theorem sm_3 (g : Nat → Int) : ∀ n, sm (3 * n) g = sm n (fun q => sm 3 (fun r => g (3 * q + r)))
  | 0 => rfl
  | n + 1 => by
    show sm (3 * n + 3) g = sm n _ + (0 + g (3 * n + 0) + g (3 * n + 1) + g (3 * n + 2))
    rw [← sm_3 g n]
    show sm (3 * n) g + g (3 * n) + g (3 * n + 1) + g (3 * n + 2) = sm (3 * n) g + (0 + g (3 * n) + g (3 * n + 1) + g (3 * n + 2))
    omega
theorem sm_n4 (g : Nat → Int) : sm 81 g = sm 3 (fun p => sm 3 (fun q => sm 3 (fun r => sm 3 (fun s => g (3 * (3 * (3 * p + q) + r) + s))))) := by
  rw [show (81 : Nat) = 3 * 27 from rfl, sm_3 g 27, show (27 : Nat) = 3 * 9 from rfl, sm_3 _ 9, show (9 : Nat) = 3 * 3 from rfl, sm_3 _ 3]
theorem sm_cyc (c : Nat) (hc : c < 3) (h : Nat → Int) : sm 3 (fun p => h ((c + p) % 3)) = sm 3 h := by
  match c, hc with
  | 0, _ => rfl
  | 1, _ =>
    show 0 + h 1 + h 2 + h 0 = 0 + h 0 + h 1 + h 2
    omega
  | 2, _ =>
    show 0 + h 2 + h 0 + h 1 = 0 + h 0 + h 1 + h 2
    omega
theorem add3_n4 (f : Nat) {p q r s : Nat} (hp : p < 3) (hq : q < 3) (hr : r < 3) (hs : s < 3) : add3 f (3 * (3 * (3 * p + q) + r) + s) = 3 * (3 * (3 * ((f / 27 + p) % 3) + (f / 9 % 3 + q) % 3) + (f / 3 % 3 + r) % 3) + (f % 3 + s) % 3 := by
  obtain ⟨-, e1, e2, e3, e4⟩ := dig4 hp hq hr hs
  rw [show 3 * (3 * (3 * p + q) + r) + s = 27 * p + 9 * q + 3 * r + s by omega]
  unfold add3
  rw [e1, e2, e3, e4]
  generalize (f / 27 + p) % 3 = A
  generalize (f / 9 % 3 + q) % 3 = B
  generalize (f / 3 % 3 + r) % 3 = C
  omega
theorem sm_turn (g : Nat → Int) {f : Nat} (hf : f < 81) : sm 81 (fun a => g (add3 f a)) = sm 81 g := by
  rw [sm_n4, sm_n4 g]
  rw [← sm_cyc (f / 27) (by omega) (fun p => sm 3 (fun q => sm 3 (fun r => sm 3 (fun s => g (3 * (3 * (3 * p + q) + r) + s)))))]
  refine sm_congr 3 (fun p hp => ?_)
  rw [← sm_cyc (f / 9 % 3) (m3 _) (fun q => sm 3 (fun r => sm 3 (fun s => g (3 * (3 * (3 * ((f / 27 + p) % 3) + q) + r) + s))))]
  refine sm_congr 3 (fun q hq => ?_)
  rw [← sm_cyc (f / 3 % 3) (m3 _) (fun r => sm 3 (fun s => g (3 * (3 * (3 * ((f / 27 + p) % 3) + (f / 9 % 3 + q) % 3) + r) + s)))]
  refine sm_congr 3 (fun r hr => ?_)
  rw [← sm_cyc (f % 3) (m3 _) (fun s => g (3 * (3 * (3 * ((f / 27 + p) % 3) + (f / 9 % 3 + q) % 3) + (f / 3 % 3 + r) % 3) + s))]
  refine sm_congr 3 (fun s hs => ?_)
  show g (add3 f _) = _
  rw [add3_n4 f hp hq hr hs]
theorem sm_mul (c : Int) (f : Nat → Int) : ∀ n, sm n (fun a => f a * c) = sm n f * c
  | 0 => by
    show (0 : Int) = 0 * c
    omega
  | n + 1 => by
    show sm n (fun a => f a * c) + f n * c = (sm n f + f n) * c
    rw [sm_mul c f n, Int.add_mul]
theorem sm_const (c : Int) : ∀ n : Nat, sm n (fun _ => c) = (n : Int) * c
  | 0 => by
    show (0 : Int) = ((0 : Nat) : Int) * c
    rw [Int.natCast_zero, Int.zero_mul]
  | n + 1 => by
    show sm n (fun _ => c) + c = ((n + 1 : Nat) : Int) * c
    rw [sm_const c n, Int.natCast_add, Int.add_mul, Int.natCast_one, Int.one_mul]
/-- whether two houses go together -/
def Tn.G (t : Tn) (a b : Nat) : Int := bi (t.go (hc (a : Int)) (hc (b : Int)))
theorem G_add (t : Tn) {f a b : Nat} (hf : f < 81) (ha : a < 81) (hb : b < 81) : t.G (add3 f a) (add3 f b) = t.G a b := by
  unfold Tn.G
  rw [go_add t hf ha hb]
theorem G_comm (t : Tn) (a b : Nat) : t.G a b = t.G b a := by
  unfold Tn.G
  rw [go_comm]
theorem cntB_sm (P : Int → Bool) : ∀ n, (cntB P n : Int) = sm n (fun x => bi (P (x : Int)))
  | 0 => rfl
  | n + 1 => by
    rw [cntB_succ, Int.natCast_add, cntB_sm P n]
    show _ = sm n _ + bi (P (n : Int))
    cases P (n : Int) <;> rfl
def Tn.M (t : Tn) : Int := (cntB (fun x => t.go (hc 0) (hc x)) 81 : Int)
theorem M_row (t : Tn) {a : Nat} (ha : a < 81) : sm 81 (fun b => t.G a b) = t.M := by
  unfold Tn.M
  rw [cntB_sm, ← sm_turn (fun b => t.G a b) ha]
  refine sm_congr 81 (fun b hb => ?_)
  have e := G_add t ha (show 0 < 81 by decide) hb
  rw [add3_0 ha] at e
  exact e
theorem M_col (t : Tn) {b : Nat} (hb : b < 81) : sm 81 (fun a => t.G a b) = t.M := by
  rw [← M_row t hb]
  exact sm_congr 81 (fun a _ => G_comm t a b)
theorem M_count (t : Tn) {a : Nat} (ha : a < 81) : (cntB (fun x => t.go (hc (a : Int)) (hc x)) 81 : Int) = t.M := by
  rw [cntB_sm]
  exact M_row t ha
/-- one house more in each row -/
def Tn.nx (t : Tn) (v : Nat → Int) (b : Nat) : Int := sm 81 (fun a => t.G a b * v a)
def Tn.nxs (t : Tn) : Nat → (Nat → Int) → Nat → Int
  | 0, v => v
  | n + 1, v => t.nxs n (t.nx v)
theorem nx_congr (t : Tn) {v v' : Nat → Int} (h : ∀ a, a < 81 → v a = v' a) (b : Nat) : t.nx v b = t.nx v' b := sm_congr 81 (fun a ha => by rw [h a ha])
theorem nxs_congr (t : Tn) : ∀ (n : Nat) {v v' : Nat → Int}, (∀ a, a < 81 → v a = v' a) → ∀ a, a < 81 → t.nxs n v a = t.nxs n v' a
  | 0, _, _, h => h
  | n + 1, _, _, h => nxs_congr t n (fun a _ => nx_congr t h a)
theorem nxs_succ (t : Tn) : ∀ (n : Nat) (v : Nat → Int), t.nxs (n + 1) v = t.nx (t.nxs n v)
  | 0, _ => rfl
  | n + 1, v => nxs_succ t n (t.nx v)
theorem nxs_one (t : Tn) (c : Int) : ∀ n, ∀ b, b < 81 → t.nxs n (fun _ => c) b = t.M ^ n * c
  | 0, b, hb => by
    show c = 1 * c
    omega
  | n + 1, b, hb => by
    rw [nxs_succ]
    show sm 81 (fun a => t.G a b * t.nxs n (fun _ => c) a) = _
    rw [sm_congr 81 (g := fun a => t.G a b * (t.M ^ n * c)) (fun a ha => by rw [nxs_one t c n a ha]), sm_mul, M_col t hb, Int.pow_succ, Int.mul_comm (t.M ^ n) t.M, Int.mul_assoc]
def dlt (f : Nat) (a : Nat) : Int := if a = f then 1 else 0
theorem nx_turn (t : Tn) {f : Nat} (hf : f < 81) {v v' : Nat → Int} (h : ∀ a, a < 81 → v (add3 f a) = v' a) {b : Nat} (hb : b < 81) : t.nx v (add3 f b) = t.nx v' b := by
  unfold Tn.nx
  rw [← sm_turn (fun a => t.G a (add3 f b) * v a) hf]
  exact sm_congr 81 (fun a ha => by
    show t.G (add3 f a) (add3 f b) * v (add3 f a) = _
    rw [G_add t hf ha hb, h a ha])
theorem nxs_turn (t : Tn) {f : Nat} (hf : f < 81) : ∀ n, ∀ b, b < 81 → t.nxs n (dlt f) (add3 f b) = t.nxs n (dlt 0) b
  | 0, b, hb => by
    show (if add3 f b = f then (1 : Int) else 0) = if b = 0 then 1 else 0
    by_cases q : b = 0
    · rw [if_pos q, if_pos ((add3_f hf hb).mpr q)]
    · rw [if_neg q, if_neg (fun w => q ((add3_f hf hb).mp w))]
  | n + 1, b, hb => by
    rw [nxs_succ, nxs_succ]
    exact nx_turn t hf (fun a ha => nxs_turn t hf n a ha) hb
theorem ring_all (t : Tn) (n : Nat) : sm 81 (fun f => t.nxs n (dlt f) f) = 81 * t.nxs n (dlt 0) 0 := by
  rw [sm_congr 81 (g := fun _ => t.nxs n (dlt 0) 0) (fun f hf => by
    have := nxs_turn t hf n 0 (by decide)
    rw [add3_0 hf] at this
    exact this), sm_const]
  rfl
/-- there is always a house that goes with one -/
theorem M_n : ((List.range 5).all fun j => decide (0 < cntB (fun x => decide (alk (hc 0) (hc x) = (j : Int))) 81)) = true := by decide +kernel
theorem cntB_mono {P Q : Int → Bool} (h : ∀ x, P x = true → Q x = true) : ∀ n, cntB P n ≤ cntB Q n
  | 0 => Nat.le_refl _
  | n + 1 => by
    rw [cntB_succ, cntB_succ]
    have ih := cntB_mono h n
    cases hp : P (n : Int) with
    | true =>
      rw [h _ hp]
      simp only [if_true]
      omega
    | false =>
      cases Q (n : Int) <;> simp <;> omega
theorem M_pos {t : Tn} (ok : t.Ok) : 0 < t.M ∧ t.M ≤ 81 := by
  have hle := cntB_le (fun x => t.go (hc 0) (hc x)) 81
  have r := ok.1
  have q := of_decide_eq_true (List.all_eq_true.mp M_n t.least.toNat (List.mem_range.mpr (by omega)))
  have e : (t.least.toNat : Int) = t.least := Int.toNat_of_nonneg (by omega)
  have := cntB_mono (P := fun x => decide (alk (hc 0) (hc x) = (t.least.toNat : Int))) (Q := fun x => t.go (hc 0) (hc x)) (fun x h => by
    have h := of_decide_eq_true h
    unfold Tn.go
    rw [h, e, decide_eq_true (Int.le_refl _), decide_eq_true (by omega)]; rfl) 81
  unfold Tn.M
  omega
