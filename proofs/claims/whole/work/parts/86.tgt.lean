/-! ===== towns to come to by changes of marks ===== -/
def mkx (f : Nat → Int) (m : Nat) : Int := mk (f (m / 4)) (m % 4)
def df (w : Nat → Int) (f g : Nat → Int) (n : Nat) : Int := sm n (fun m => if mkx f m = mkx g m then 0 else w m)
theorem sm_upd {F G : Nat → Int} {j : Nat} (h : ∀ i, i ≠ j → F i = G i) : ∀ n, j < n → sm n F = sm n G + (F j - G j)
  | 0, hj => by omega
  | n + 1, hj => by
    show sm n F + F n = sm n G + G n + (F j - G j)
    by_cases e : j = n
    · rw [sm_congr n (g := G) (fun i hi => h i (by omega)), e]
      omega
    · rw [sm_upd h n (by omega), h n (by omega)]
      omega
theorem df_upd {w f f' g : Nat → Int} {j n : Nat} (hj : j < n) (h : ∀ m, m ≠ j → mkx f' m = mkx f m) (h1 : mkx f j ≠ mkx g j) (h2 : mkx f' j = mkx g j) : df w f g n = df w f' g n + w j := by
  have e := sm_upd (F := fun m => if mkx f m = mkx g m then 0 else w m) (G := fun m => if mkx f' m = mkx g m then 0 else w m) (j := j) (fun m hm => by
    show (if mkx f m = mkx g m then 0 else w m) = (if mkx f' m = mkx g m then 0 else w m)
    rw [h m hm]) n hj
  unfold df
  rw [e]
  show _ + ((if mkx f j = mkx g j then 0 else w j) - (if mkx f' j = mkx g j then 0 else w j)) = _
  rw [if_neg h1, if_pos h2]
  omega
theorem df_same (w f : Nat → Int) (n : Nat) : df w f f n = 0 := by
  unfold df
  rw [sm_congr n (g := fun _ => 0) (fun m _ => if_pos rfl), sm_zero]
theorem mkx_turn {t : Tn} (ok : t.Ok) {l k : Nat} (hl : l < t.lots) (ne : t.kind l ≠ -1) (hk : k < 4) {s : Int} (hs : 0 ≤ s ∧ s < 4) : mkx (t.turn l k s).code (4 * l + k) = s ∧ ∀ m, m ≠ 4 * l + k → mkx (t.turn l k s).code m = mkx t.code m := by
  have cd := ((ok.2 l hl).2 ne).2.2
  constructor
  · unfold mkx
    rw [show (4 * l + k) / 4 = l by omega, show (4 * l + k) % 4 = k by omega]
    show mk ((t.cod l _).code l) k = s
    rw [cod_code_eq, (mk_ws cd hk hs hk).1, if_pos rfl]
  · intro m hm
    unfold mkx
    by_cases e : m / 4 = l
    · rw [e]
      show mk ((t.cod l _).code l) _ = _
      rw [cod_code_eq, (mk_ws cd hk hs (show m % 4 < 4 by omega)).1, if_neg (by omega)]
    · show mk ((t.cod l _).code (m / 4)) _ = _
      rw [cod_code_ne _ _ e]
theorem turn_bound (t : Tn) (l k : Nat) (s : Int) (o : Nat) : (t.turn l k s).bound o = t.bound o := cod_bound _ _ _ _
/-- codes with which the town is lawful, got by changes of marks that are not locked -/
def tg (t : Tn) (L : Nat → Bool) (c : Nat → Int) : Prop := (∀ m, m < 4 * t.lots → mkx t.code m ≠ mkx c m → t.bound (m / 4) = true ∧ 0 ≤ mkx c m ∧ mkx c m < 3 ∧ L m = false) ∧ ∀ p ∈ t.prs, t.bound p.1 = true → t.bound p.2 = true → t.go (c p.1) (c p.2) = true
theorem tg_here {t : Tn} (L : Nat → Bool) (h : t.wl = []) : tg t L t.code := by
  refine ⟨fun m _ w => absurd rfl w, fun p hp h1 h2 => ?_⟩
  have := List.filter_eq_nil_iff.mp h p hp
  unfold Tn.wrong at this
  rw [h1, h2] at this
  cases q : t.go (t.code p.1) (t.code p.2) with
  | true => rfl
  | false => rw [q] at this; exact absurd rfl this
theorem tg_step {t : Tn} (ok : t.Ok) {L L' : Nat → Bool} {c : Nat → Int} {l k : Nat} (hl : l < t.lots) (ne : t.kind l ≠ -1) (hk : k < 4) (h : tg t L c) (hd : mkx t.code (4 * l + k) ≠ mkx c (4 * l + k)) (hL : ∀ m, m < 4 * t.lots → m ≠ 4 * l + k → mkx t.code m ≠ mkx c m → L' m = false) : tg (t.turn l k (mkx c (4 * l + k))) L' c ∧ ∀ w, df w t.code c (4 * t.lots) = df w (t.turn l k (mkx c (4 * l + k))).code c (4 * t.lots) + w (4 * l + k) := by
  have hj : 4 * l + k < 4 * t.lots := by omega
  have q := h.1 _ hj hd
  obtain ⟨m1, m2⟩ := mkx_turn ok hl ne hk (s := mkx c (4 * l + k)) ⟨q.2.1, by omega⟩
  refine ⟨⟨fun m hm hw => ?_, fun p hp h1 h2 => by
    rw [turn_bound] at h1 h2
    exact h.2 p hp h1 h2⟩, fun w => df_upd hj m2 hd m1⟩
  by_cases e : m = 4 * l + k
  · rw [e] at hw
    exact absurd m1 hw
  · rw [m2 m e] at hw
    have := h.1 m hm hw
    rw [turn_bound]
    exact ⟨this.1, this.2.1, this.2.2.1, hL m hm e hw⟩
theorem tg_back {t : Tn} (ok : t.Ok) {L L' : Nat → Bool} {c : Nat → Int} {l k : Nat} (hl : l < t.lots) (hb : t.bound l = true) (hk : k < 4) {s : Int} (hs : 0 ≤ s ∧ s < 3) (hd : mkx t.code (4 * l + k) ≠ s) (hL : L (4 * l + k) = false) (hL1 : L' (4 * l + k) = true) (hL2 : ∀ m, L m = true → L' m = true) (h : tg (t.turn l k s) L' c) : tg t L c ∧ ∀ w, df w t.code c (4 * t.lots) = df w (t.turn l k s).code c (4 * t.lots) + w (4 * l + k) := by
  have hj : 4 * l + k < 4 * t.lots := by omega
  obtain ⟨m1, m2⟩ := mkx_turn ok hl (Tn.bound_ne hb) hk (s := s) ⟨hs.1, by omega⟩
  have ej : mkx (t.turn l k s).code (4 * l + k) = mkx c (4 * l + k) := by
    by_cases w : mkx (t.turn l k s).code (4 * l + k) = mkx c (4 * l + k)
    · exact w
    · have := (h.1 _ hj w).2.2.2
      rw [hL1] at this
      cases this
  refine ⟨⟨fun m hm hw => ?_, fun p hp h1 h2 => h.2 p hp ((turn_bound _ _ _ _ _).trans h1) ((turn_bound _ _ _ _ _).trans h2)⟩, fun w => df_upd hj m2 (by rw [← ej, m1]; exact hd) ej⟩
  by_cases e : m = 4 * l + k
  · rw [e, ← ej, m1, hL, show (4 * l + k) / 4 = l by omega]
    exact ⟨hb, hs.1, hs.2, rfl⟩
  · have := h.1 m hm (by rw [m2 m e]; exact hw)
    rw [turn_bound] at this
    refine ⟨this.1, this.2.1, this.2.2.1, ?_⟩
    cases q : L m with
    | false => rfl
    | true =>
      rw [hL2 m q] at this
      exact absurd this.2.2.2 (by decide)
/-- how many marks of a house are to change -/
def hd4 (f g : Nat → Int) (l : Nat) : Int := sm 4 (fun k => if mkx f (4 * l + k) = mkx g (4 * l + k) then 0 else 1)
theorem df_hd (f g : Nat → Int) : ∀ n, df (fun _ => 1) f g (4 * n) = sm n (hd4 f g)
  | 0 => rfl
  | n + 1 => by
    show sm (4 * n + 4) _ = sm n _ + (0 + _ + _ + _ + _)
    rw [← df_hd f g n]
    unfold df
    show sm (4 * n) _ + (if mkx f (4 * n) = mkx g (4 * n) then (0 : Int) else 1) + (if mkx f (4 * n + 1) = mkx g (4 * n + 1) then (0 : Int) else 1) + (if mkx f (4 * n + 2) = mkx g (4 * n + 2) then (0 : Int) else 1) + (if mkx f (4 * n + 3) = mkx g (4 * n + 3) then (0 : Int) else 1) = _
    generalize sm (4 * n) _ = A
    show A + (if mkx f (4 * n + 0) = mkx g (4 * n + 0) then (0 : Int) else 1) + (if mkx f (4 * n + 1) = mkx g (4 * n + 1) then (0 : Int) else 1) + (if mkx f (4 * n + 2) = mkx g (4 * n + 2) then (0 : Int) else 1) + (if mkx f (4 * n + 3) = mkx g (4 * n + 3) then (0 : Int) else 1) = A + (0 + (if mkx f (4 * n + 0) = mkx g (4 * n + 0) then (0 : Int) else 1) + (if mkx f (4 * n + 1) = mkx g (4 * n + 1) then (0 : Int) else 1) + (if mkx f (4 * n + 2) = mkx g (4 * n + 2) then (0 : Int) else 1) + (if mkx f (4 * n + 3) = mkx g (4 * n + 3) then (0 : Int) else 1))
    omega
theorem hd_0 (f g : Nat → Int) (l : Nat) : 0 ≤ hd4 f g l := by
  refine (sm_B (B := 1) 4 (fun j _ => ?_)).1
  by_cases q : mkx f (4 * l + j) = mkx g (4 * l + j)
  · rw [if_pos q]; decide
  · rw [if_neg q]; decide
