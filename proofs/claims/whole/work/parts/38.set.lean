/-! ===== an act puts something in the place of a part of the state ===== -/
def g0 (_ _ : Nat) : Bool := false
def gX (c i : Nat) : Bool := (Nat.beq c 1 && Nat.beq i 4) || Nat.beq c 11
def gW (c i : Nat) : Bool := (Nat.beq c 1 && Nat.beq i 5) || Nat.beq c 12
def gP (c i : Nat) : Bool := ((Nat.beq c 13 || Nat.beq c 16) && Nat.beq i 2) || Nat.beq c 14 || Nat.beq c 17
def gY (c i : Nat) : Bool := Nat.beq c 1 && Nat.ble 6 i
def gR (c _ : Nat) : Bool := Nat.beq c 62
def gH (c _ : Nat) : Bool := Nat.ble 63 c && Nat.ble c 70
def gV (c i : Nat) : Bool := (Nat.beq c 59 && Nat.beq i 1) || Nat.beq c 60
theorem gT_kept : ∀ c i, 19 ≤ c → c ≤ 36 → or2 gT ScC c i = false := by
  intro c i h1 h2
  obtain ⟨k, rfl⟩ := Nat.exists_eq_add_of_le h1
  have hk : k ≤ 17 := by omega
  match k, hk with
  | 0, _ => rfl
  | 1, _ => rfl
  | 2, _ => rfl
  | 3, _ => rfl
  | 4, _ => rfl
  | 5, _ => rfl
  | 6, _ => rfl
  | 7, _ => rfl
  | 8, _ => rfl
  | 9, _ => rfl
  | 10, _ => rfl
  | 11, _ => rfl
  | 12, _ => rfl
  | 13, _ => rfl
  | 14, _ => rfl
  | 15, _ => rfl
  | 16, _ => rfl
  | 17, _ => rfl
  | k + 18, hk => exact absurd hk (by omega)
theorem gT_sh : ∀ c i, 63 ≤ c → c ≤ 70 → or2 gT ScC c i = false := by
  intro c i h1 h2
  obtain ⟨k, rfl⟩ := Nat.exists_eq_add_of_le h1
  have hk : k ≤ 7 := by omega
  match k, hk with
  | 0, _ => rfl
  | 1, _ => rfl
  | 2, _ => rfl
  | 3, _ => rfl
  | 4, _ => rfl
  | 5, _ => rfl
  | 6, _ => rfl
  | 7, _ => rfl
  | k + 8, hk => exact absurd hk (by omega)
theorem gX_kept : ∀ c i, 19 ≤ c → c ≤ 36 → or2 gX ScC c i = false := by
  intro c i h1 h2
  obtain ⟨k, rfl⟩ := Nat.exists_eq_add_of_le h1
  have hk : k ≤ 17 := by omega
  match k, hk with
  | 0, _ => rfl
  | 1, _ => rfl
  | 2, _ => rfl
  | 3, _ => rfl
  | 4, _ => rfl
  | 5, _ => rfl
  | 6, _ => rfl
  | 7, _ => rfl
  | 8, _ => rfl
  | 9, _ => rfl
  | 10, _ => rfl
  | 11, _ => rfl
  | 12, _ => rfl
  | 13, _ => rfl
  | 14, _ => rfl
  | 15, _ => rfl
  | 16, _ => rfl
  | 17, _ => rfl
  | k + 18, hk => exact absurd hk (by omega)
theorem gX_sh : ∀ c i, 63 ≤ c → c ≤ 70 → or2 gX ScC c i = false := by
  intro c i h1 h2
  obtain ⟨k, rfl⟩ := Nat.exists_eq_add_of_le h1
  have hk : k ≤ 7 := by omega
  match k, hk with
  | 0, _ => rfl
  | 1, _ => rfl
  | 2, _ => rfl
  | 3, _ => rfl
  | 4, _ => rfl
  | 5, _ => rfl
  | 6, _ => rfl
  | 7, _ => rfl
  | k + 8, hk => exact absurd hk (by omega)
theorem gW_kept : ∀ c i, 19 ≤ c → c ≤ 36 → or2 gW ScC c i = false := by
  intro c i h1 h2
  obtain ⟨k, rfl⟩ := Nat.exists_eq_add_of_le h1
  have hk : k ≤ 17 := by omega
  match k, hk with
  | 0, _ => rfl
  | 1, _ => rfl
  | 2, _ => rfl
  | 3, _ => rfl
  | 4, _ => rfl
  | 5, _ => rfl
  | 6, _ => rfl
  | 7, _ => rfl
  | 8, _ => rfl
  | 9, _ => rfl
  | 10, _ => rfl
  | 11, _ => rfl
  | 12, _ => rfl
  | 13, _ => rfl
  | 14, _ => rfl
  | 15, _ => rfl
  | 16, _ => rfl
  | 17, _ => rfl
  | k + 18, hk => exact absurd hk (by omega)
theorem gW_sh : ∀ c i, 63 ≤ c → c ≤ 70 → or2 gW ScC c i = false := by
  intro c i h1 h2
  obtain ⟨k, rfl⟩ := Nat.exists_eq_add_of_le h1
  have hk : k ≤ 7 := by omega
  match k, hk with
  | 0, _ => rfl
  | 1, _ => rfl
  | 2, _ => rfl
  | 3, _ => rfl
  | 4, _ => rfl
  | 5, _ => rfl
  | 6, _ => rfl
  | 7, _ => rfl
  | k + 8, hk => exact absurd hk (by omega)
theorem gP_kept : ∀ c i, 19 ≤ c → c ≤ 36 → or2 gP ScC c i = false := by
  intro c i h1 h2
  obtain ⟨k, rfl⟩ := Nat.exists_eq_add_of_le h1
  have hk : k ≤ 17 := by omega
  match k, hk with
  | 0, _ => rfl
  | 1, _ => rfl
  | 2, _ => rfl
  | 3, _ => rfl
  | 4, _ => rfl
  | 5, _ => rfl
  | 6, _ => rfl
  | 7, _ => rfl
  | 8, _ => rfl
  | 9, _ => rfl
  | 10, _ => rfl
  | 11, _ => rfl
  | 12, _ => rfl
  | 13, _ => rfl
  | 14, _ => rfl
  | 15, _ => rfl
  | 16, _ => rfl
  | 17, _ => rfl
  | k + 18, hk => exact absurd hk (by omega)
theorem gP_sh : ∀ c i, 63 ≤ c → c ≤ 70 → or2 gP ScC c i = false := by
  intro c i h1 h2
  obtain ⟨k, rfl⟩ := Nat.exists_eq_add_of_le h1
  have hk : k ≤ 7 := by omega
  match k, hk with
  | 0, _ => rfl
  | 1, _ => rfl
  | 2, _ => rfl
  | 3, _ => rfl
  | 4, _ => rfl
  | 5, _ => rfl
  | 6, _ => rfl
  | 7, _ => rfl
  | k + 8, hk => exact absurd hk (by omega)
theorem gY_kept : ∀ c i, 19 ≤ c → c ≤ 36 → or2 gY ScC c i = false := by
  intro c i h1 h2
  obtain ⟨k, rfl⟩ := Nat.exists_eq_add_of_le h1
  have hk : k ≤ 17 := by omega
  match k, hk with
  | 0, _ => rfl
  | 1, _ => rfl
  | 2, _ => rfl
  | 3, _ => rfl
  | 4, _ => rfl
  | 5, _ => rfl
  | 6, _ => rfl
  | 7, _ => rfl
  | 8, _ => rfl
  | 9, _ => rfl
  | 10, _ => rfl
  | 11, _ => rfl
  | 12, _ => rfl
  | 13, _ => rfl
  | 14, _ => rfl
  | 15, _ => rfl
  | 16, _ => rfl
  | 17, _ => rfl
  | k + 18, hk => exact absurd hk (by omega)
theorem gY_sh : ∀ c i, 63 ≤ c → c ≤ 70 → or2 gY ScC c i = false := by
  intro c i h1 h2
  obtain ⟨k, rfl⟩ := Nat.exists_eq_add_of_le h1
  have hk : k ≤ 7 := by omega
  match k, hk with
  | 0, _ => rfl
  | 1, _ => rfl
  | 2, _ => rfl
  | 3, _ => rfl
  | 4, _ => rfl
  | 5, _ => rfl
  | 6, _ => rfl
  | 7, _ => rfl
  | k + 8, hk => exact absurd hk (by omega)
theorem gR_kept : ∀ c i, 19 ≤ c → c ≤ 36 → or2 gR ScC c i = false := by
  intro c i h1 h2
  obtain ⟨k, rfl⟩ := Nat.exists_eq_add_of_le h1
  have hk : k ≤ 17 := by omega
  match k, hk with
  | 0, _ => rfl
  | 1, _ => rfl
  | 2, _ => rfl
  | 3, _ => rfl
  | 4, _ => rfl
  | 5, _ => rfl
  | 6, _ => rfl
  | 7, _ => rfl
  | 8, _ => rfl
  | 9, _ => rfl
  | 10, _ => rfl
  | 11, _ => rfl
  | 12, _ => rfl
  | 13, _ => rfl
  | 14, _ => rfl
  | 15, _ => rfl
  | 16, _ => rfl
  | 17, _ => rfl
  | k + 18, hk => exact absurd hk (by omega)
theorem gR_sh : ∀ c i, 63 ≤ c → c ≤ 70 → or2 gR ScC c i = false := by
  intro c i h1 h2
  obtain ⟨k, rfl⟩ := Nat.exists_eq_add_of_le h1
  have hk : k ≤ 7 := by omega
  match k, hk with
  | 0, _ => rfl
  | 1, _ => rfl
  | 2, _ => rfl
  | 3, _ => rfl
  | 4, _ => rfl
  | 5, _ => rfl
  | 6, _ => rfl
  | 7, _ => rfl
  | k + 8, hk => exact absurd hk (by omega)
theorem gH_kept : ∀ c i, 19 ≤ c → c ≤ 36 → or2 gH ScC c i = false := by
  intro c i h1 h2
  obtain ⟨k, rfl⟩ := Nat.exists_eq_add_of_le h1
  have hk : k ≤ 17 := by omega
  match k, hk with
  | 0, _ => rfl
  | 1, _ => rfl
  | 2, _ => rfl
  | 3, _ => rfl
  | 4, _ => rfl
  | 5, _ => rfl
  | 6, _ => rfl
  | 7, _ => rfl
  | 8, _ => rfl
  | 9, _ => rfl
  | 10, _ => rfl
  | 11, _ => rfl
  | 12, _ => rfl
  | 13, _ => rfl
  | 14, _ => rfl
  | 15, _ => rfl
  | 16, _ => rfl
  | 17, _ => rfl
  | k + 18, hk => exact absurd hk (by omega)
theorem gV_kept : ∀ c i, 19 ≤ c → c ≤ 36 → or2 gV ScC c i = false := by
  intro c i h1 h2
  obtain ⟨k, rfl⟩ := Nat.exists_eq_add_of_le h1
  have hk : k ≤ 17 := by omega
  match k, hk with
  | 0, _ => rfl
  | 1, _ => rfl
  | 2, _ => rfl
  | 3, _ => rfl
  | 4, _ => rfl
  | 5, _ => rfl
  | 6, _ => rfl
  | 7, _ => rfl
  | 8, _ => rfl
  | 9, _ => rfl
  | 10, _ => rfl
  | 11, _ => rfl
  | 12, _ => rfl
  | 13, _ => rfl
  | 14, _ => rfl
  | 15, _ => rfl
  | 16, _ => rfl
  | 17, _ => rfl
  | k + 18, hk => exact absurd hk (by omega)
theorem gV_sh : ∀ c i, 63 ≤ c → c ≤ 70 → or2 gV ScC c i = false := by
  intro c i h1 h2
  obtain ⟨k, rfl⟩ := Nat.exists_eq_add_of_le h1
  have hk : k ≤ 7 := by omega
  match k, hk with
  | 0, _ => rfl
  | 1, _ => rfl
  | 2, _ => rfl
  | 3, _ => rfl
  | 4, _ => rfl
  | 5, _ => rfl
  | 6, _ => rfl
  | 7, _ => rfl
  | k + 8, hk => exact absurd hk (by omega)
theorem g0_kept : ∀ c i, 19 ≤ c → c ≤ 36 → or2 g0 ScC c i = false := by
  intro c i h1 h2
  obtain ⟨k, rfl⟩ := Nat.exists_eq_add_of_le h1
  have hk : k ≤ 17 := by omega
  match k, hk with
  | 0, _ => rfl
  | 1, _ => rfl
  | 2, _ => rfl
  | 3, _ => rfl
  | 4, _ => rfl
  | 5, _ => rfl
  | 6, _ => rfl
  | 7, _ => rfl
  | 8, _ => rfl
  | 9, _ => rfl
  | 10, _ => rfl
  | 11, _ => rfl
  | 12, _ => rfl
  | 13, _ => rfl
  | 14, _ => rfl
  | 15, _ => rfl
  | 16, _ => rfl
  | 17, _ => rfl
  | k + 18, hk => exact absurd hk (by omega)
theorem g0_sh : ∀ c i, 63 ≤ c → c ≤ 70 → or2 g0 ScC c i = false := by
  intro c i h1 h2
  obtain ⟨k, rfl⟩ := Nat.exists_eq_add_of_le h1
  have hk : k ≤ 7 := by omega
  match k, hk with
  | 0, _ => rfl
  | 1, _ => rfl
  | 2, _ => rfl
  | 3, _ => rfl
  | 4, _ => rfl
  | 5, _ => rfl
  | 6, _ => rfl
  | 7, _ => rfl
  | k + 8, hk => exact absurd hk (by omega)
theorem CI.set0 {σ : St} {μ μ' : amM} (h : CI σ μ) (hs : same (or2 g0 ScC) μ μ') : CI (σ) μ' := by
  obtain ⟨⟨b1, b2, b3, ⟨b4, b5⟩, b6⟩, a2, a3, a4, a5, a6, a7⟩ := h
  exact ⟨⟨b1.keep hs (by intro i g1 g2; rfl) (fun _ => rfl) (fun _ => rfl) (fun _ => rfl) (fun _ => rfl) (fun _ => rfl), b2.keep hs rfl (fun _ => rfl), b3.keep hs rfl (fun _ => rfl), ⟨b4.keep hs rfl (fun _ => rfl), b5.keep hs rfl (fun _ => rfl)⟩, b6.keep hs rfl rfl rfl⟩, fun g => (a2 g).keep hs (fun _ _ => g0_kept _ _ (by decide) (by decide)) (fun _ _ => g0_kept _ _ (by decide) (by decide)) (fun j _ _ _ => g0_kept _ _ (by omega) (by omega)) (fun _ => g0_kept _ _ (by decide) (by decide)) (fun _ => g0_kept _ _ (by decide) (by decide)) (g0_kept _ _ (by decide) (by decide)) (fun _ => g0_kept _ _ (by decide) (by decide)) (g0_kept _ _ (by decide) (by decide)) (fun _ => g0_kept _ _ (by decide) (by decide)), (hs _ _ rfl).trans a3, a4.keep hs (fun _ => rfl), a5.keep hs g0_sh, a6.keep hs rfl (fun _ => rfl), a7.keep hs rfl rfl (fun _ => rfl)⟩
theorem CI.setT {σ : St} {μ μ' : amM} {t : Tn} (h : CI σ μ) (hs : same (or2 gT ScC) μ μ') (hn : TC 2 t μ') : CI (σ.setT t) μ' := by
  obtain ⟨⟨b1, b2, b3, ⟨b4, b5⟩, b6⟩, a2, a3, a4, a5, a6, a7⟩ := h
  exact ⟨⟨hn, b2.keep hs rfl (fun _ => rfl), b3.keep hs rfl (fun _ => rfl), ⟨b4.keep hs rfl (fun _ => rfl), b5.keep hs rfl (fun _ => rfl)⟩, b6.keep hs rfl rfl rfl⟩, fun g => (a2 g).keep hs (fun _ _ => gT_kept _ _ (by decide) (by decide)) (fun _ _ => gT_kept _ _ (by decide) (by decide)) (fun j _ _ _ => gT_kept _ _ (by omega) (by omega)) (fun _ => gT_kept _ _ (by decide) (by decide)) (fun _ => gT_kept _ _ (by decide) (by decide)) (gT_kept _ _ (by decide) (by decide)) (fun _ => gT_kept _ _ (by decide) (by decide)) (gT_kept _ _ (by decide) (by decide)) (fun _ => gT_kept _ _ (by decide) (by decide)), (hs _ _ rfl).trans a3, a4.keep hs (fun _ => rfl), a5.keep hs gT_sh, a6.keep hs rfl (fun _ => rfl), a7.keep hs rfl rfl (fun _ => rfl)⟩
theorem CI.setX {σ : St} {μ μ' : amM} {n : Nat} {f : Nat → Int} (h : CI σ μ) (hs : same (or2 gX ScC) μ μ') (hn : PX 1 n f μ') : CI (σ.setX n f) μ' := by
  obtain ⟨⟨b1, b2, b3, ⟨b4, b5⟩, b6⟩, a2, a3, a4, a5, a6, a7⟩ := h
  exact ⟨⟨b1.keep hs (by intro i g1 g2; rfl) (fun _ => rfl) (fun _ => rfl) (fun _ => rfl) (fun _ => rfl) (fun _ => rfl), hn, b3.keep hs rfl (fun _ => rfl), ⟨b4.keep hs rfl (fun _ => rfl), b5.keep hs rfl (fun _ => rfl)⟩, b6.keep hs rfl rfl rfl⟩, fun g => (a2 g).keep hs (fun _ _ => gX_kept _ _ (by decide) (by decide)) (fun _ _ => gX_kept _ _ (by decide) (by decide)) (fun j _ _ _ => gX_kept _ _ (by omega) (by omega)) (fun _ => gX_kept _ _ (by decide) (by decide)) (fun _ => gX_kept _ _ (by decide) (by decide)) (gX_kept _ _ (by decide) (by decide)) (fun _ => gX_kept _ _ (by decide) (by decide)) (gX_kept _ _ (by decide) (by decide)) (fun _ => gX_kept _ _ (by decide) (by decide)), (hs _ _ rfl).trans a3, a4.keep hs (fun _ => rfl), a5.keep hs gX_sh, a6.keep hs rfl (fun _ => rfl), a7.keep hs rfl rfl (fun _ => rfl)⟩
theorem CI.setW {σ : St} {μ μ' : amM} {n : Nat} {f : Nat → Int} (h : CI σ μ) (hs : same (or2 gW ScC) μ μ') (hn : PW 1 n f μ') : CI (σ.setW n f) μ' := by
  obtain ⟨⟨b1, b2, b3, ⟨b4, b5⟩, b6⟩, a2, a3, a4, a5, a6, a7⟩ := h
  exact ⟨⟨b1.keep hs (by intro i g1 g2; rfl) (fun _ => rfl) (fun _ => rfl) (fun _ => rfl) (fun _ => rfl) (fun _ => rfl), b2.keep hs rfl (fun _ => rfl), hn, ⟨b4.keep hs rfl (fun _ => rfl), b5.keep hs rfl (fun _ => rfl)⟩, b6.keep hs rfl rfl rfl⟩, fun g => (a2 g).keep hs (fun _ _ => gW_kept _ _ (by decide) (by decide)) (fun _ _ => gW_kept _ _ (by decide) (by decide)) (fun j _ _ _ => gW_kept _ _ (by omega) (by omega)) (fun _ => gW_kept _ _ (by decide) (by decide)) (fun _ => gW_kept _ _ (by decide) (by decide)) (gW_kept _ _ (by decide) (by decide)) (fun _ => gW_kept _ _ (by decide) (by decide)) (gW_kept _ _ (by decide) (by decide)) (fun _ => gW_kept _ _ (by decide) (by decide)), (hs _ _ rfl).trans a3, a4.keep hs (fun _ => rfl), a5.keep hs gW_sh, a6.keep hs rfl (fun _ => rfl), a7.keep hs rfl rfl (fun _ => rfl)⟩
theorem CI.setP {σ : St} {μ μ' : amM} {l0 l1 : List Int} (h : CI σ μ) (hs : same (or2 gP ScC) μ μ') (hn : TX 13 0 l0 μ' ∧ TX 16 1 l1 μ') : CI (σ.setP l0 l1) μ' := by
  obtain ⟨⟨b1, b2, b3, ⟨b4, b5⟩, b6⟩, a2, a3, a4, a5, a6, a7⟩ := h
  exact ⟨⟨b1.keep hs (by intro i g1 g2; rfl) (fun _ => rfl) (fun _ => rfl) (fun _ => rfl) (fun _ => rfl) (fun _ => rfl), b2.keep hs rfl (fun _ => rfl), b3.keep hs rfl (fun _ => rfl), hn, b6.keep hs rfl rfl rfl⟩, fun g => (a2 g).keep hs (fun _ _ => gP_kept _ _ (by decide) (by decide)) (fun _ _ => gP_kept _ _ (by decide) (by decide)) (fun j _ _ _ => gP_kept _ _ (by omega) (by omega)) (fun _ => gP_kept _ _ (by decide) (by decide)) (fun _ => gP_kept _ _ (by decide) (by decide)) (gP_kept _ _ (by decide) (by decide)) (fun _ => gP_kept _ _ (by decide) (by decide)) (gP_kept _ _ (by decide) (by decide)) (fun _ => gP_kept _ _ (by decide) (by decide)), (hs _ _ rfl).trans a3, a4.keep hs (fun _ => rfl), a5.keep hs gP_sh, a6.keep hs rfl (fun _ => rfl), a7.keep hs rfl rfl (fun _ => rfl)⟩
theorem CI.setY {σ : St} {μ μ' : amM} {y s z : Int} (h : CI σ μ) (hs : same (or2 gY ScC) μ μ') (hn : PS 1 y s z μ') : CI (σ.setY y s z) μ' := by
  obtain ⟨⟨b1, b2, b3, ⟨b4, b5⟩, b6⟩, a2, a3, a4, a5, a6, a7⟩ := h
  exact ⟨⟨b1.keep hs (by intro i g1 g2; rfl) (fun _ => rfl) (fun _ => rfl) (fun _ => rfl) (fun _ => rfl) (fun _ => rfl), b2.keep hs rfl (fun _ => rfl), b3.keep hs rfl (fun _ => rfl), ⟨b4.keep hs rfl (fun _ => rfl), b5.keep hs rfl (fun _ => rfl)⟩, hn⟩, fun g => (a2 g).keep hs (fun _ _ => gY_kept _ _ (by decide) (by decide)) (fun _ _ => gY_kept _ _ (by decide) (by decide)) (fun j _ _ _ => gY_kept _ _ (by omega) (by omega)) (fun _ => gY_kept _ _ (by decide) (by decide)) (fun _ => gY_kept _ _ (by decide) (by decide)) (gY_kept _ _ (by decide) (by decide)) (fun _ => gY_kept _ _ (by decide) (by decide)) (gY_kept _ _ (by decide) (by decide)) (fun _ => gY_kept _ _ (by decide) (by decide)), (hs _ _ rfl).trans a3, a4.keep hs (fun _ => rfl), a5.keep hs gY_sh, a6.keep hs rfl (fun _ => rfl), a7.keep hs rfl rfl (fun _ => rfl)⟩
theorem CI.setR {σ : St} {μ μ' : amM} {f : Nat → Int} (h : CI σ μ) (hs : same (or2 gR ScC) μ μ') (hn : PR 62 f μ') : CI (σ.setR f) μ' := by
  obtain ⟨⟨b1, b2, b3, ⟨b4, b5⟩, b6⟩, a2, a3, a4, a5, a6, a7⟩ := h
  exact ⟨⟨b1.keep hs (by intro i g1 g2; rfl) (fun _ => rfl) (fun _ => rfl) (fun _ => rfl) (fun _ => rfl) (fun _ => rfl), b2.keep hs rfl (fun _ => rfl), b3.keep hs rfl (fun _ => rfl), ⟨b4.keep hs rfl (fun _ => rfl), b5.keep hs rfl (fun _ => rfl)⟩, b6.keep hs rfl rfl rfl⟩, fun g => (a2 g).keep hs (fun _ _ => gR_kept _ _ (by decide) (by decide)) (fun _ _ => gR_kept _ _ (by decide) (by decide)) (fun j _ _ _ => gR_kept _ _ (by omega) (by omega)) (fun _ => gR_kept _ _ (by decide) (by decide)) (fun _ => gR_kept _ _ (by decide) (by decide)) (gR_kept _ _ (by decide) (by decide)) (fun _ => gR_kept _ _ (by decide) (by decide)) (gR_kept _ _ (by decide) (by decide)) (fun _ => gR_kept _ _ (by decide) (by decide)), (hs _ _ rfl).trans a3, hn, a5.keep hs gR_sh, a6.keep hs rfl (fun _ => rfl), a7.keep hs rfl rfl (fun _ => rfl)⟩
theorem CI.setH {σ : St} {μ μ' : amM} {b : Nat → Int} {s : Nat → Nat} {n : Nat → Nat → Int} (h : CI σ μ) (hs : same (or2 gH ScC) μ μ') (hn : PH b s n μ') : CI (σ.setH b s n) μ' := by
  obtain ⟨⟨b1, b2, b3, ⟨b4, b5⟩, b6⟩, a2, a3, a4, a5, a6, a7⟩ := h
  exact ⟨⟨b1.keep hs (by intro i g1 g2; rfl) (fun _ => rfl) (fun _ => rfl) (fun _ => rfl) (fun _ => rfl) (fun _ => rfl), b2.keep hs rfl (fun _ => rfl), b3.keep hs rfl (fun _ => rfl), ⟨b4.keep hs rfl (fun _ => rfl), b5.keep hs rfl (fun _ => rfl)⟩, b6.keep hs rfl rfl rfl⟩, fun g => (a2 g).keep hs (fun _ _ => gH_kept _ _ (by decide) (by decide)) (fun _ _ => gH_kept _ _ (by decide) (by decide)) (fun j _ _ _ => gH_kept _ _ (by omega) (by omega)) (fun _ => gH_kept _ _ (by decide) (by decide)) (fun _ => gH_kept _ _ (by decide) (by decide)) (gH_kept _ _ (by decide) (by decide)) (fun _ => gH_kept _ _ (by decide) (by decide)) (gH_kept _ _ (by decide) (by decide)) (fun _ => gH_kept _ _ (by decide) (by decide)), (hs _ _ rfl).trans a3, a4.keep hs (fun _ => rfl), hn, a6.keep hs rfl (fun _ => rfl), a7.keep hs rfl rfl (fun _ => rfl)⟩
theorem CI.setV {σ : St} {μ μ' : amM} {l : List Int} (h : CI σ μ) (hs : same (or2 gV ScC) μ μ') (hn : PV l μ') : CI (σ.setV l) μ' := by
  obtain ⟨⟨b1, b2, b3, ⟨b4, b5⟩, b6⟩, a2, a3, a4, a5, a6, a7⟩ := h
  exact ⟨⟨b1.keep hs (by intro i g1 g2; rfl) (fun _ => rfl) (fun _ => rfl) (fun _ => rfl) (fun _ => rfl) (fun _ => rfl), b2.keep hs rfl (fun _ => rfl), b3.keep hs rfl (fun _ => rfl), ⟨b4.keep hs rfl (fun _ => rfl), b5.keep hs rfl (fun _ => rfl)⟩, b6.keep hs rfl rfl rfl⟩, fun g => (a2 g).keep hs (fun _ _ => gV_kept _ _ (by decide) (by decide)) (fun _ _ => gV_kept _ _ (by decide) (by decide)) (fun j _ _ _ => gV_kept _ _ (by omega) (by omega)) (fun _ => gV_kept _ _ (by decide) (by decide)) (fun _ => gV_kept _ _ (by decide) (by decide)) (gV_kept _ _ (by decide) (by decide)) (fun _ => gV_kept _ _ (by decide) (by decide)) (gV_kept _ _ (by decide) (by decide)) (fun _ => gV_kept _ _ (by decide) (by decide)), (hs _ _ rfl).trans a3, a4.keep hs (fun _ => rfl), a5.keep hs gV_sh, hn, a7.keep hs rfl rfl (fun _ => rfl)⟩
def h0 (_ _ : Nat) : Bool := false
def hX (c i : Nat) : Bool := Nat.beq c 72 && (Nat.beq i 8 || Nat.ble 526 i)
def hW (c i : Nat) : Bool := Nat.beq c 72 && (Nat.beq i 9 || (Nat.ble 406 i && Nat.ble i 425))
def hP (c i : Nat) : Bool := Nat.beq c 72 && (Nat.beq i 404 || Nat.beq i 405 || (Nat.ble 426 i && Nat.ble i 525))
def hY (c i : Nat) : Bool := Nat.beq c 72 && (Nat.ble 5 i && Nat.ble i 7)
def hR (c _ : Nat) : Bool := Nat.beq c 74
def hH (c _ : Nat) : Bool := Nat.ble 91 c && Nat.ble c 93
def hV (c i : Nat) : Bool := (Nat.beq c 71 && Nat.beq i 33) || Nat.beq c 90
theorem hT_526 (i : Nat) (h1 : 526 ≤ i) (h2 : i < 576) : or2 hT ScM 72 i = false := by
  show ((hT 72 i) || false) = false
  unfold hT
  simp only [ble_f (a := i) (b := 4) (by omega), ble_f (a := i) (b := 403) (by omega), Bool.and_false, Bool.or_false]
theorem hT_406 (i : Nat) (h1 : 406 ≤ i) (h2 : i < 426) : or2 hT ScM 72 i = false := by
  show ((hT 72 i) || false) = false
  unfold hT
  simp only [ble_f (a := i) (b := 4) (by omega), ble_f (a := i) (b := 403) (by omega), Bool.and_false, Bool.or_false]
theorem hT_426 (i : Nat) (h1 : 426 ≤ i) (h2 : i < 526) : or2 hT ScM 72 i = false := by
  show ((hT 72 i) || false) = false
  unfold hT
  simp only [ble_f (a := i) (b := 4) (by omega), ble_f (a := i) (b := 403) (by omega), Bool.and_false, Bool.or_false]
theorem hX_0 (i : Nat) (h1 : 0 ≤ i) (h2 : i < 5) : or2 hX ScM 72 i = false := by
  show ((hX 72 i) || false) = false
  unfold hX
  simp only [beq_f (a := i) (b := 8) (by omega), ble_f (a := 526) (b := i) (by omega), Bool.and_false, Bool.or_false]
theorem hX_20 (i : Nat) (h1 : 20 ≤ i) (h2 : i < 404) : or2 hX ScM 72 i = false := by
  show ((hX 72 i) || false) = false
  unfold hX
  simp only [beq_f (a := i) (b := 8) (by omega), ble_f (a := 526) (b := i) (by omega), Bool.and_false, Bool.or_false]
theorem hX_406 (i : Nat) (h1 : 406 ≤ i) (h2 : i < 426) : or2 hX ScM 72 i = false := by
  show ((hX 72 i) || false) = false
  unfold hX
  simp only [beq_f (a := i) (b := 8) (by omega), ble_f (a := 526) (b := i) (by omega), Bool.and_false, Bool.or_false]
theorem hX_426 (i : Nat) (h1 : 426 ≤ i) (h2 : i < 526) : or2 hX ScM 72 i = false := by
  show ((hX 72 i) || false) = false
  unfold hX
  simp only [beq_f (a := i) (b := 8) (by omega), ble_f (a := 526) (b := i) (by omega), Bool.and_false, Bool.or_false]
theorem hW_0 (i : Nat) (h1 : 0 ≤ i) (h2 : i < 5) : or2 hW ScM 72 i = false := by
  show ((hW 72 i) || false) = false
  unfold hW
  simp only [beq_f (a := i) (b := 9) (by omega), ble_f (a := 406) (b := i) (by omega), Bool.and_false, Bool.false_and, Bool.or_false]
theorem hW_20 (i : Nat) (h1 : 20 ≤ i) (h2 : i < 404) : or2 hW ScM 72 i = false := by
  show ((hW 72 i) || false) = false
  unfold hW
  simp only [beq_f (a := i) (b := 9) (by omega), ble_f (a := 406) (b := i) (by omega), Bool.and_false, Bool.false_and, Bool.or_false]
theorem hW_526 (i : Nat) (h1 : 526 ≤ i) (h2 : i < 576) : or2 hW ScM 72 i = false := by
  show ((hW 72 i) || false) = false
  unfold hW
  simp only [beq_f (a := i) (b := 9) (by omega), ble_f (a := i) (b := 425) (by omega), Bool.and_false, Bool.false_and, Bool.or_false]
theorem hW_426 (i : Nat) (h1 : 426 ≤ i) (h2 : i < 526) : or2 hW ScM 72 i = false := by
  show ((hW 72 i) || false) = false
  unfold hW
  simp only [beq_f (a := i) (b := 9) (by omega), ble_f (a := i) (b := 425) (by omega), Bool.and_false, Bool.false_and, Bool.or_false]
theorem hP_0 (i : Nat) (h1 : 0 ≤ i) (h2 : i < 5) : or2 hP ScM 72 i = false := by
  show ((hP 72 i) || false) = false
  unfold hP
  simp only [beq_f (a := i) (b := 404) (by omega), beq_f (a := i) (b := 405) (by omega), ble_f (a := 426) (b := i) (by omega), Bool.and_false, Bool.false_and, Bool.or_false]
theorem hP_20 (i : Nat) (h1 : 20 ≤ i) (h2 : i < 404) : or2 hP ScM 72 i = false := by
  show ((hP 72 i) || false) = false
  unfold hP
  simp only [beq_f (a := i) (b := 404) (by omega), beq_f (a := i) (b := 405) (by omega), ble_f (a := 426) (b := i) (by omega), Bool.and_false, Bool.false_and, Bool.or_false]
theorem hP_526 (i : Nat) (h1 : 526 ≤ i) (h2 : i < 576) : or2 hP ScM 72 i = false := by
  show ((hP 72 i) || false) = false
  unfold hP
  simp only [beq_f (a := i) (b := 404) (by omega), beq_f (a := i) (b := 405) (by omega), ble_f (a := i) (b := 525) (by omega), Bool.and_false, Bool.false_and, Bool.or_false]
theorem hP_406 (i : Nat) (h1 : 406 ≤ i) (h2 : i < 426) : or2 hP ScM 72 i = false := by
  show ((hP 72 i) || false) = false
  unfold hP
  simp only [beq_f (a := i) (b := 404) (by omega), beq_f (a := i) (b := 405) (by omega), ble_f (a := 426) (b := i) (by omega), Bool.and_false, Bool.false_and, Bool.or_false]
theorem hY_0 (i : Nat) (h1 : 0 ≤ i) (h2 : i < 5) : or2 hY ScM 72 i = false := by
  show ((hY 72 i) || false) = false
  unfold hY
  simp only [ble_f (a := 5) (b := i) (by omega), Bool.and_false, Bool.false_and, Bool.or_false]
theorem hY_20 (i : Nat) (h1 : 20 ≤ i) (h2 : i < 404) : or2 hY ScM 72 i = false := by
  show ((hY 72 i) || false) = false
  unfold hY
  simp only [ble_f (a := i) (b := 7) (by omega), Bool.and_false, Bool.false_and, Bool.or_false]
theorem hY_526 (i : Nat) (h1 : 526 ≤ i) (h2 : i < 576) : or2 hY ScM 72 i = false := by
  show ((hY 72 i) || false) = false
  unfold hY
  simp only [ble_f (a := i) (b := 7) (by omega), Bool.and_false, Bool.false_and, Bool.or_false]
theorem hY_406 (i : Nat) (h1 : 406 ≤ i) (h2 : i < 426) : or2 hY ScM 72 i = false := by
  show ((hY 72 i) || false) = false
  unfold hY
  simp only [ble_f (a := i) (b := 7) (by omega), Bool.and_false, Bool.false_and, Bool.or_false]
theorem hY_426 (i : Nat) (h1 : 426 ≤ i) (h2 : i < 526) : or2 hY ScM 72 i = false := by
  show ((hY 72 i) || false) = false
  unfold hY
  simp only [ble_f (a := i) (b := 7) (by omega), Bool.and_false, Bool.false_and, Bool.or_false]
theorem MI.set0 {σ : St} {μ μ' : amM} (ok : σ.Ok) (h : MI σ μ) (hs : same (or2 h0 ScM) μ μ') : MI (σ) μ' := by
  obtain ⟨⟨b1, b2, b3, ⟨b4, b5⟩, b6⟩, a2, a3, a4, a5, a6⟩ := h
  exact ⟨⟨b1.keep hs (fun _ => rfl), b2.keep hs rfl (fun _ _ => rfl), b3.keep hs rfl (fun _ _ => rfl), ⟨b4.keep hs rfl (fun _ _ => rfl), b5.keep hs rfl (fun _ _ => rfl)⟩, b6.keep hs rfl rfl rfl⟩, fun g => (a2 g).keep hs (fun _ => rfl), (hs _ _ rfl).trans a3, a4.keep hs (fun _ => rfl), a5.keep hs (fun _ => rfl) (fun _ => rfl) (fun _ => rfl), a6.keep hs rfl (fun _ => rfl)⟩
theorem MI.setT {σ : St} {μ μ' : amM} {t : Tn} (ok : σ.Ok) (h : MI σ μ) (hs : same (or2 hT ScM) μ μ') (hn : TM 72 t μ') : MI (σ.setT t) μ' := by
  obtain ⟨⟨b1, b2, b3, ⟨b4, b5⟩, b6⟩, a2, a3, a4, a5, a6⟩ := h
  exact ⟨⟨hn, b2.keep hs rfl (fun i hi => hT_526 _ (by omega) (by have := ok.1.2.1.1; omega)), b3.keep hs rfl (fun i hi => hT_406 _ (by omega) (by have := ok.1.2.2.1; omega)), ⟨b4.keep hs rfl (fun i hi => hT_426 _ (by omega) (by have := ok.1.2.2.2.1.1.1; omega)), b5.keep hs rfl (fun i hi => hT_426 _ (by omega) (by have := ok.1.2.2.2.1.2.1; omega))⟩, b6.keep hs rfl rfl rfl⟩, fun g => (a2 g).keep hs (fun _ => rfl), (hs _ _ rfl).trans a3, a4.keep hs (fun _ => rfl), a5.keep hs (fun _ => rfl) (fun _ => rfl) (fun _ => rfl), a6.keep hs rfl (fun _ => rfl)⟩
theorem MI.setX {σ : St} {μ μ' : amM} {n : Nat} {f : Nat → Int} (ok : σ.Ok) (h : MI σ μ) (hs : same (or2 hX ScM) μ μ') (hn : MP 72 n f μ') : MI (σ.setX n f) μ' := by
  obtain ⟨⟨b1, b2, b3, ⟨b4, b5⟩, b6⟩, a2, a3, a4, a5, a6⟩ := h
  exact ⟨⟨b1.keep2 ok.1.1 hs (fun i hi => hX_0 i (Nat.zero_le _) hi) (fun i h1 h2 => hX_20 i h1 h2), hn, b3.keep hs rfl (fun i hi => hX_406 _ (by omega) (by have := ok.1.2.2.1; omega)), ⟨b4.keep hs rfl (fun i hi => hX_426 _ (by omega) (by have := ok.1.2.2.2.1.1.1; omega)), b5.keep hs rfl (fun i hi => hX_426 _ (by omega) (by have := ok.1.2.2.2.1.2.1; omega))⟩, b6.keep hs rfl rfl rfl⟩, fun g => (a2 g).keep hs (fun _ => rfl), (hs _ _ rfl).trans a3, a4.keep hs (fun _ => rfl), a5.keep hs (fun _ => rfl) (fun _ => rfl) (fun _ => rfl), a6.keep hs rfl (fun _ => rfl)⟩
theorem MI.setW {σ : St} {μ μ' : amM} {n : Nat} {f : Nat → Int} (ok : σ.Ok) (h : MI σ μ) (hs : same (or2 hW ScM) μ μ') (hn : MW 72 n f μ') : MI (σ.setW n f) μ' := by
  obtain ⟨⟨b1, b2, b3, ⟨b4, b5⟩, b6⟩, a2, a3, a4, a5, a6⟩ := h
  exact ⟨⟨b1.keep2 ok.1.1 hs (fun i hi => hW_0 i (Nat.zero_le _) hi) (fun i h1 h2 => hW_20 i h1 h2), b2.keep hs rfl (fun i hi => hW_526 _ (by omega) (by have := ok.1.2.1.1; omega)), hn, ⟨b4.keep hs rfl (fun i hi => hW_426 _ (by omega) (by have := ok.1.2.2.2.1.1.1; omega)), b5.keep hs rfl (fun i hi => hW_426 _ (by omega) (by have := ok.1.2.2.2.1.2.1; omega))⟩, b6.keep hs rfl rfl rfl⟩, fun g => (a2 g).keep hs (fun _ => rfl), (hs _ _ rfl).trans a3, a4.keep hs (fun _ => rfl), a5.keep hs (fun _ => rfl) (fun _ => rfl) (fun _ => rfl), a6.keep hs rfl (fun _ => rfl)⟩
theorem MI.setP {σ : St} {μ μ' : amM} {l0 l1 : List Int} (ok : σ.Ok) (h : MI σ μ) (hs : same (or2 hP ScM) μ μ') (hn : MX 72 0 l0 μ' ∧ MX 72 1 l1 μ') : MI (σ.setP l0 l1) μ' := by
  obtain ⟨⟨b1, b2, b3, ⟨b4, b5⟩, b6⟩, a2, a3, a4, a5, a6⟩ := h
  exact ⟨⟨b1.keep2 ok.1.1 hs (fun i hi => hP_0 i (Nat.zero_le _) hi) (fun i h1 h2 => hP_20 i h1 h2), b2.keep hs rfl (fun i hi => hP_526 _ (by omega) (by have := ok.1.2.1.1; omega)), b3.keep hs rfl (fun i hi => hP_406 _ (by omega) (by have := ok.1.2.2.1; omega)), hn, b6.keep hs rfl rfl rfl⟩, fun g => (a2 g).keep hs (fun _ => rfl), (hs _ _ rfl).trans a3, a4.keep hs (fun _ => rfl), a5.keep hs (fun _ => rfl) (fun _ => rfl) (fun _ => rfl), a6.keep hs rfl (fun _ => rfl)⟩
theorem MI.setY {σ : St} {μ μ' : amM} {y s z : Int} (ok : σ.Ok) (h : MI σ μ) (hs : same (or2 hY ScM) μ μ') (hn : MS 72 y s z μ') : MI (σ.setY y s z) μ' := by
  obtain ⟨⟨b1, b2, b3, ⟨b4, b5⟩, b6⟩, a2, a3, a4, a5, a6⟩ := h
  exact ⟨⟨b1.keep2 ok.1.1 hs (fun i hi => hY_0 i (Nat.zero_le _) hi) (fun i h1 h2 => hY_20 i h1 h2), b2.keep hs rfl (fun i hi => hY_526 _ (by omega) (by have := ok.1.2.1.1; omega)), b3.keep hs rfl (fun i hi => hY_406 _ (by omega) (by have := ok.1.2.2.1; omega)), ⟨b4.keep hs rfl (fun i hi => hY_426 _ (by omega) (by have := ok.1.2.2.2.1.1.1; omega)), b5.keep hs rfl (fun i hi => hY_426 _ (by omega) (by have := ok.1.2.2.2.1.2.1; omega))⟩, hn⟩, fun g => (a2 g).keep hs (fun _ => rfl), (hs _ _ rfl).trans a3, a4.keep hs (fun _ => rfl), a5.keep hs (fun _ => rfl) (fun _ => rfl) (fun _ => rfl), a6.keep hs rfl (fun _ => rfl)⟩
theorem MI.setR {σ : St} {μ μ' : amM} {f : Nat → Int} (ok : σ.Ok) (h : MI σ μ) (hs : same (or2 hR ScM) μ μ') (hn : PR 74 f μ') : MI (σ.setR f) μ' := by
  obtain ⟨⟨b1, b2, b3, ⟨b4, b5⟩, b6⟩, a2, a3, a4, a5, a6⟩ := h
  exact ⟨⟨b1.keep hs (fun _ => rfl), b2.keep hs rfl (fun _ _ => rfl), b3.keep hs rfl (fun _ _ => rfl), ⟨b4.keep hs rfl (fun _ _ => rfl), b5.keep hs rfl (fun _ _ => rfl)⟩, b6.keep hs rfl rfl rfl⟩, fun g => (a2 g).keep hs (fun _ => rfl), (hs _ _ rfl).trans a3, hn, a5.keep hs (fun _ => rfl) (fun _ => rfl) (fun _ => rfl), a6.keep hs rfl (fun _ => rfl)⟩
theorem MI.setH {σ : St} {μ μ' : amM} {b : Nat → Int} {s : Nat → Nat} {n : Nat → Nat → Int} (ok : σ.Ok) (h : MI σ μ) (hs : same (or2 hH ScM) μ μ') (hn : MH b s n μ') : MI (σ.setH b s n) μ' := by
  obtain ⟨⟨b1, b2, b3, ⟨b4, b5⟩, b6⟩, a2, a3, a4, a5, a6⟩ := h
  exact ⟨⟨b1.keep hs (fun _ => rfl), b2.keep hs rfl (fun _ _ => rfl), b3.keep hs rfl (fun _ _ => rfl), ⟨b4.keep hs rfl (fun _ _ => rfl), b5.keep hs rfl (fun _ _ => rfl)⟩, b6.keep hs rfl rfl rfl⟩, fun g => (a2 g).keep hs (fun _ => rfl), (hs _ _ rfl).trans a3, a4.keep hs (fun _ => rfl), hn, a6.keep hs rfl (fun _ => rfl)⟩
theorem MI.setV {σ : St} {μ μ' : amM} {l : List Int} (ok : σ.Ok) (h : MI σ μ) (hs : same (or2 hV ScM) μ μ') (hn : MV l μ') : MI (σ.setV l) μ' := by
  obtain ⟨⟨b1, b2, b3, ⟨b4, b5⟩, b6⟩, a2, a3, a4, a5, a6⟩ := h
  exact ⟨⟨b1.keep hs (fun _ => rfl), b2.keep hs rfl (fun _ _ => rfl), b3.keep hs rfl (fun _ _ => rfl), ⟨b4.keep hs rfl (fun _ _ => rfl), b5.keep hs rfl (fun _ _ => rfl)⟩, b6.keep hs rfl rfl rfl⟩, fun g => (a2 g).keep hs (fun _ => rfl), (hs _ _ rfl).trans a3, a4.keep hs (fun _ => rfl), a5.keep hs (fun _ => rfl) (fun _ => rfl) (fun _ => rfl), hn⟩
