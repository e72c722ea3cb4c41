/-! ===== bits ===== -/
theorem shl_n (x : Int) {s : Int} {n : Nat} (hs : ((Int32.ofInt s &&& 31).toBitVec.smod 32).toNat = n) : bShl x s = (x * 2 ^ n).bmod 4294967296 := by
  have e : bShl x s = ((Int32.ofInt x).toBitVec <<< ((Int32.ofInt s &&& 31).toBitVec.smod 32)).toInt := rfl
  have e2 : ∀ a : Nat, ((a <<< n : Nat) : Int) = (a : Int) * 2 ^ n := fun a => by
    rw [Nat.shiftLeft_eq, Int.natCast_mul, Int.natCast_pow]; rfl
  rw [e, BitVec.shiftLeft_eq', hs, BitVec.toInt_shiftLeft, e2, Int32.toBitVec_ofInt, BitVec.toNat_ofInt]
  have h2 : ((x % ((2 ^ 32 : Nat) : Int)).toNat : Int) = x % 4294967296 := by
    rw [Int.toNat_of_nonneg (Int.emod_nonneg _ (by decide))]; rfl
  rw [h2]
  have h3 : (x % 4294967296 * 2 ^ n) % ((2 ^ 32 : Nat) : Int) = (x * 2 ^ n) % ((4294967296 : Nat) : Int) := by
    show (x % 4294967296 * 2 ^ n) % 4294967296 = (x * 2 ^ n) % 4294967296
    rw [Int.mul_emod, Int.emod_emod, ← Int.mul_emod]
  unfold Int.bmod
  rw [h3]
theorem shr_n (x : Int) {s : Int} {n : Nat} (hs : ((Int32.ofInt s &&& 31).toBitVec.smod 32).toNat = n) : bShr x s = x.bmod 4294967296 / 2 ^ n := by
  have e : bShr x s = ((Int32.ofInt x).toBitVec.sshiftRight' ((Int32.ofInt s &&& 31).toBitVec.smod 32)).toInt := rfl
  rw [e, BitVec.toInt_sshiftRight', hs, Int32.toBitVec_ofInt, BitVec.toInt_ofInt, Int.shiftRight_eq_div_pow]
  rfl
def trn (b v : Int) : Int := if b = 8 then v.bmod 256 else if b = 16 then v.bmod 65536 else v
theorem trn_e {b v : Int} (hb : b = 8 ∨ b = 16 ∨ b = 32) (hv : i32 v) : bShr (bShl v (w32 (32 - b))) (w32 (32 - b)) = trn b v := by
  unfold i32 at hv
  rcases hb with rfl | rfl | rfl
  · rw [show w32 (32 - 8) = 24 from by decide, shl_n v (n := 24) (by decide), shr_n _ (n := 24) (by decide), Int.bmod_bmod]
    unfold trn
    rw [if_pos rfl]
    unfold Int.bmod
    simp only []
    split <;> split <;> omega
  · rw [show w32 (32 - 16) = 16 from by decide, shl_n v (n := 16) (by decide), shr_n _ (n := 16) (by decide), Int.bmod_bmod]
    unfold trn
    rw [if_neg (by decide), if_pos rfl]
    unfold Int.bmod
    simp only []
    split <;> split <;> omega
  · rw [show w32 (32 - 32) = 0 from by decide, shl_n v (n := 0) (by decide), shr_n _ (n := 0) (by decide), Int.bmod_bmod]
    unfold trn
    rw [if_neg (by decide), if_neg (by decide)]
    unfold Int.bmod
    simp only []
    split <;> omega
theorem trn_s {b v : Int} (hv : 0 ≤ v ∧ v ≤ 80) : trn b v = v := by
  unfold trn Int.bmod
  by_cases q : b = 8
  · rw [if_pos q]
    simp only []
    split <;> omega
  · rw [if_neg q]
    by_cases q2 : b = 16
    · rw [if_pos q2]
      simp only []
      split <;> omega
    · rw [if_neg q2]
/-! ===== sheets ===== -/
theorem shT {k : Nat} (hk : k < 4) : amTg ((63 + 2 * k : Nat) : Int) = 10 := by
  match k, hk with
  | 0, _ => rfl
  | 1, _ => rfl
  | 2, _ => rfl
  | 3, _ => rfl
theorem shC {k i : Nat} (hk : k < 4) (hi : 1 ≤ i) : cr2 (63 + 2 * k) i = none := by
  obtain ⟨j, rfl⟩ := Nat.exists_eq_add_of_le hi
  rw [Nat.add_comm 1 j]
  match k, hk with
  | 0, _ => rfl
  | 1, _ => rfl
  | 2, _ => rfl
  | 3, _ => rfl
theorem shC2 {k : Nat} (hk : k < 4) (i : Nat) : cr2 (64 + 2 * k) i = none := by
  match k, hk with
  | 0, _ => rfl
  | 1, _ => rfl
  | 2, _ => rfl
  | 3, _ => rfl
theorem shN {k : Nat} (hk : k < 4) {μ : amM} {f : Int → amR} : amGf cr2 μ 10 0 ((63 + 2 * k : Nat) : Int) f = f ((64 + 2 * k : Nat) : Int) := by
  match k, hk with
  | 0, _ => exact gf0 (ci := 10) (k := 0) (x := 63) (v := 64) rfl rfl
  | 1, _ => exact gf0 (ci := 10) (k := 0) (x := 65) (v := 66) rfl rfl
  | 2, _ => exact gf0 (ci := 10) (k := 0) (x := 67) (v := 68) rfl rfl
  | 3, _ => exact gf0 (ci := 10) (k := 0) (x := 69) (v := 70) rfl rfl
theorem shQ {k : Nat} (hk : k < 4) {μ : amM} {f : Int → amR} : amQld cr2 24 μ 61 (k : Int) f = f ((63 + 2 * k : Nat) : Int) := by
  match k, hk with
  | 0, _ => exact ql0 (t := 24) (x := 61) (i := 0) (v := 63) rfl (by decide) rfl
  | 1, _ => exact ql0 (t := 24) (x := 61) (i := 1) (v := 65) rfl (by decide) rfl
  | 2, _ => exact ql0 (t := 24) (x := 61) (i := 2) (v := 67) rfl (by decide) rfl
  | 3, _ => exact ql0 (t := 24) (x := 61) (i := 3) (v := 69) rfl (by decide) rfl
theorem shB {k : Nat} (hk : k < 4) {μ : amM} {f : Int → amR} : amGf cr2 μ 10 1 ((63 + 2 * k : Nat) : Int) f = f (μ (63 + 2 * k) 1) := gf1 (shT hk) (shC hk (by decide)) (by decide)
theorem shS {k : Nat} (hk : k < 4) {μ : amM} {f : Int → amR} : amGf cr2 μ 10 2 ((63 + 2 * k : Nat) : Int) f = f (μ (63 + 2 * k) 2) := gf1 (shT hk) (shC hk (by decide)) (by decide)
theorem shPb {k : Nat} (hk : k < 4) {μ : amM} {v : Int} {f : amM → amR} : amPf cr2 μ 10 1 ((63 + 2 * k : Nat) : Int) v f = f (up μ (63 + 2 * k) 1 v) := pf1 (shT hk) (by decide) (shC hk (by decide)) (by decide)
theorem shPs {k : Nat} (hk : k < 4) {μ : amM} {v : Int} {f : amM → amR} : amPf cr2 μ 10 2 ((63 + 2 * k : Nat) : Int) v f = f (up μ (63 + 2 * k) 2 v) := pf1 (shT hk) (by decide) (shC hk (by decide)) (by decide)
theorem shT2 {k : Nat} (hk : k < 4) : amTg ((64 + 2 * k : Nat) : Int) = 20 ∧ amLn ((64 + 2 * k : Nat) : Int) = 64 := by
  match k, hk with
  | 0, _ => exact ⟨rfl, rfl⟩
  | 1, _ => exact ⟨rfl, rfl⟩
  | 2, _ => exact ⟨rfl, rfl⟩
  | 3, _ => exact ⟨rfl, rfl⟩
theorem shA {k : Nat} (hk : k < 4) {μ : amM} {i : Int} {f : Int → amR} (h1 : 0 ≤ i) (h2 : i < 64) : amAld μ ((64 + 2 * k : Nat) : Int) i f = f (μ (64 + 2 * k) i.toNat) := by
  unfold amAld
  rw [if_pos (shT2 hk).1, (shT2 hk).2, if_pos ⟨h1, h2⟩, Int.toNat_natCast]
theorem shW {k : Nat} (hk : k < 4) {μ : amM} {i v : Int} {f : amM → amR} (h1 : 0 ≤ i) (h2 : i < 64) : amPst 20 μ ((64 + 2 * k : Nat) : Int) i v f = f (up μ (64 + 2 * k) i.toNat v) := by
  unfold amPst
  rw [if_pos (shT2 hk).1, (shT2 hk).2, if_pos ⟨h1, h2⟩, if_neg (by decide), Int.toNat_natCast]
theorem shMiss_e (d : Nat) {k : Nat} (hk : k < 4) (μ : amM) : RD cr2 (d + 1) 35 [((63 + 2 * k : Nat) : Int)] μ = some (bi (μ (63 + 2 * k) 1 == 0), μ) := by
  rw [M35, shB hk]
  by_cases q : μ (63 + 2 * k) 1 = 0
  · rw [if_pos q, B35_2, q]; rfl
  · rw [if_neg q, B35_1, B35_2, beq_false_of_ne q]; rfl
theorem shSet_e (d : Nat) {k : Nat} (hk : k < 4) {i v : Int} {μ : amM} (h1 : 0 ≤ i) (h2 : i < 64) (hb : μ (63 + 2 * k) 1 = 8 ∨ μ (63 + 2 * k) 1 = 16 ∨ μ (63 + 2 * k) 1 = 32) (hv : i32 v) : RD cr2 (d + 1) 37 [((63 + 2 * k : Nat) : Int), i, v] μ = some (0, up μ (64 + 2 * k) i.toNat (trn (μ (63 + 2 * k) 1) v)) := by
  rw [M37, shB hk, shN hk, shW hk h1 h2, trn_e hb hv]
def nset {α : Type} (f : Nat → α) (k : Nat) (v : α) : Nat → α := fun i => if i = k then v else f i
theorem nset_eq {α : Type} (f : Nat → α) (k : Nat) (v : α) : nset f k v k = v := if_pos rfl
theorem nset_ne {α : Type} (f : Nat → α) {k i : Nat} (v : α) (h : i ≠ k) : nset f k v i = f i := if_neg h
def gK (k c _ : Nat) : Bool := Nat.beq c (63 + 2 * k) || Nat.beq c (64 + 2 * k)
def isB (b : Int) : Bool := b == 0 || b == 8 || b == 16 || b == 32
theorem isB_or {b : Int} (h : isB b = true) : b = 0 ∨ b = 8 ∨ b = 16 ∨ b = 32 := by
  unfold isB at h
  rw [Bool.or_eq_true, Bool.or_eq_true, Bool.or_eq_true, beq_iff_eq, beq_iff_eq, beq_iff_eq, beq_iff_eq] at h
  rcases h with ((h | h) | h) | h
  · exact Or.inl h
  · exact Or.inr (Or.inl h)
  · exact Or.inr (Or.inr (Or.inl h))
  · exact Or.inr (Or.inr (Or.inr h))
def isSh (x : Int) : Bool := decide (0 ≤ x) && decide (x ≤ 3)
/-- one sheet is another -/
def St.setK (σ : St) (k : Nat) (b : Int) (s : Nat) (n : Nat → Int) : St := σ.setH (nset σ.sb k b) (nset σ.ss k s) (nset σ.sn k n)
theorem St.Ok.setK {σ : St} (ok : σ.Ok) {k s : Nat} {b : Int} {n : Nat → Int} (hb : b = 0 ∨ b = 8 ∨ b = 16 ∨ b = 32) (hs : s ≤ 64) : (σ.setK k b s n).Ok := by
  refine ⟨ok.1, ok.2.1, fun j hj => ?_, ok.2.2.2⟩
  show ((nset σ.sb k b j = 0 ∨ nset σ.sb k b j = 8 ∨ nset σ.sb k b j = 16 ∨ nset σ.sb k b j = 32) ∧ nset σ.ss k s j ≤ 64)
  by_cases e : j = k
  · rw [e, nset_eq, nset_eq]; exact ⟨hb, hs⟩
  · rw [nset_ne _ _ e, nset_ne _ _ e]; exact ok.2.2.1 j hj
theorem gK_H {k : Nat} (hk : k < 4) {μ μ' : amM} (h : same (gK k) μ μ') : same (or2 gH ScC) μ μ' := by
  refine h.wide (fun c i q => ?_)
  have q := or2_l q
  unfold gH at q
  unfold gK
  by_cases e1 : c = 63 + 2 * k
  · rw [ble_t (show 63 ≤ c by omega), ble_t (show c ≤ 70 by omega)] at q; cases q
  · by_cases e2 : c = 64 + 2 * k
    · rw [ble_t (show 63 ≤ c by omega), ble_t (show c ≤ 70 by omega)] at q; cases q
    · rw [beq_f e1, beq_f e2]; rfl
theorem CI.setK {σ : St} {μ μ' : amM} (h : CI σ μ) {k : Nat} (hk : k < 4) (hs : same (gK k) μ μ') {b : Int} {s : Nat} {n : Nat → Int} (h1 : μ' (63 + 2 * k) 1 = b) (h2 : μ' (63 + 2 * k) 2 = s) (h3 : ∀ i, i < s → μ' (64 + 2 * k) i = n i) : CI (σ.setK k b s n) μ' := by
  refine h.setH (gK_H hk hs) (fun j hj => ?_)
  have hp := h.2.2.2.2.1 j hj
  by_cases e : j = k
  · subst e
    rw [nset_eq, nset_eq, nset_eq]
    exact ⟨h1, h2, h3⟩
  · have f1 : ∀ i, gK k (63 + 2 * j) i = false := fun i => by unfold gK; rw [beq_f (by omega), beq_f (by omega)]; rfl
    have f2 : ∀ i, gK k (64 + 2 * j) i = false := fun i => by unfold gK; rw [beq_f (by omega), beq_f (by omega)]; rfl
    rw [nset_ne _ _ e, nset_ne _ _ e, nset_ne _ _ e, hs _ _ (f1 _), hs _ _ (f1 _)]
    exact ⟨hp.1, hp.2.1, fun i hi => (hs _ _ (f2 _)).trans (hp.2.2 i hi)⟩
theorem up_sF {k : Nat} (hk : k < 4) {μ μ1 : amM} (h : same FC μ μ1) (i : Nat) (v : Int) : same FC μ (up μ1 (64 + 2 * k) i v) := by
  refine h.up ?_
  unfold FC
  rw [shC2 hk i, ble_t (show 64 + 2 * k ≤ 70 by omega)]; rfl
theorem up_sF1 {k : Nat} (hk : k < 4) {μ μ1 : amM} (h : same FC μ μ1) {i : Nat} (hi : 1 ≤ i) (v : Int) : same FC μ (up μ1 (63 + 2 * k) i v) := by
  refine h.up ?_
  unfold FC
  rw [shC hk hi, ble_t (show 63 + 2 * k ≤ 70 by omega)]; rfl
theorem up_sK {k : Nat} {μ μ1 : amM} (h : same (gK k) μ μ1) (i : Nat) (v : Int) : same (gK k) μ (up μ1 (64 + 2 * k) i v) := by
  refine h.up ?_
  unfold gK
  rw [Nat.beq_refl (64 + 2 * k), Bool.or_true]
theorem up_sK1 {k : Nat} {μ μ1 : amM} (h : same (gK k) μ μ1) (i : Nat) (v : Int) : same (gK k) μ (up μ1 (63 + 2 * k) i v) := by
  refine h.up ?_
  unfold gK
  rw [Nat.beq_refl (63 + 2 * k), Bool.true_or]
/-! the reference's sheets -/
def hK (k c i : Nat) : Bool := ((Nat.beq c 91 || Nat.beq c 92) && Nat.beq i k) || (Nat.beq c 93 && (Nat.ble (64 * k) i && Nat.ble i (64 * k + 63)))
theorem hK_H {k : Nat} {μ μ' : amM} (h : same (hK k) μ μ') : same (or2 hH ScM) μ μ' := by
  refine h.wide (fun c i q => ?_)
  have q := or2_l q
  unfold hK
  by_cases e1 : c = 91
  · rw [e1] at q; cases q
  · by_cases e2 : c = 92
    · rw [e2] at q; cases q
    · by_cases e3 : c = 93
      · rw [e3] at q; cases q
      · rw [beq_f e1, beq_f e2, beq_f e3]; rfl
theorem hK_F {k : Nat} {μ μ' : amM} (h : same (hK k) μ μ') : same FM μ μ' := by
  refine h.wide (fun c i q => ?_)
  unfold hK
  by_cases e1 : c = 91
  · rw [e1] at q; cases q
  · by_cases e2 : c = 92
    · rw [e2] at q; cases q
    · by_cases e3 : c = 93
      · rw [e3] at q; cases q
      · rw [beq_f e1, beq_f e2, beq_f e3]; rfl
theorem MI.setK {σ : St} {μ μ' : amM} (ok : σ.Ok) (h : MI σ μ) {k : Nat} (hs : same (hK k) μ μ') {b : Int} {s : Nat} {n : Nat → Int} (h1 : μ' 91 k = b) (h2 : μ' 92 k = s) (h3 : ∀ i, i < s → μ' 93 (64 * k + i) = n i) : MI (σ.setK k b s n) μ' := by
  refine h.setH ok (hK_H hs) (fun j hj => ?_)
  have hp := h.2.2.2.2.1 j hj
  by_cases e : j = k
  · subst e
    rw [nset_eq, nset_eq, nset_eq]
    exact ⟨h1, h2, h3⟩
  · have s64 := (ok.2.2.1 j hj).2
    have f1 : hK k 91 j = false := by unfold hK; rw [beq_f e]; rfl
    have f2 : hK k 92 j = false := by unfold hK; rw [beq_f e]; rfl
    have f3 : ∀ i, i < σ.ss j → hK k 93 (64 * j + i) = false := fun i hi => by
      show (Nat.ble (64 * k) (64 * j + i) && Nat.ble (64 * j + i) (64 * k + 63)) = false
      by_cases q : j < k
      · rw [ble_f (a := 64 * k) (by omega)]; rfl
      · rw [ble_f (a := 64 * j + i) (by omega), Bool.and_false]
    rw [nset_ne _ _ e, nset_ne _ _ e, nset_ne _ _ e, hs _ _ f1, hs _ _ f2]
    exact ⟨hp.1, hp.2.1, fun i hi => (hs _ _ (f3 i hi)).trans (hp.2.2 i hi)⟩
theorem hK_1 (k : Nat) : hK k 91 k = true := by
  unfold hK
  rw [Nat.beq_refl k]; rfl
theorem hK_2 (k : Nat) : hK k 92 k = true := by
  unfold hK
  rw [Nat.beq_refl k]; rfl
theorem hK_3 {k i : Nat} (h1 : 64 * k ≤ i) (h2 : i ≤ 64 * k + 63) : hK k 93 i = true := by
  unfold hK
  rw [ble_t h1, ble_t h2, Bool.and_self, Bool.and_true, Nat.beq_refl 93, Bool.or_true]
