/-! ===== feed ===== -/
theorem land_n (a : Nat) : a &&& 255 = a % 256 := Nat.and_two_pow_sub_one_eq_mod a 8
theorem bAnd255 (y : Int) : bAnd y 255 = y % 256 := by
  have e : bAnd y 255 = ((Int32.ofInt y).toBitVec &&& (Int32.ofInt 255).toBitVec).toInt := rfl
  have e2 : ((Int32.ofInt y).toBitVec &&& (Int32.ofInt 255).toBitVec).toNat = (y % 4294967296).toNat % 256 := by
    rw [BitVec.toNat_and, Int32.toBitVec_ofInt, BitVec.toNat_ofInt, show (Int32.ofInt 255).toBitVec.toNat = 255 from by decide, land_n]
    rfl
  rw [e, BitVec.toInt_eq_toNat_of_lt (by rw [e2]; omega), e2]
  omega
theorem lAnd255 (y : Int) : lAnd y 255 = y % 256 := by
  have e : lAnd y 255 = ((Int64.ofInt y).toBitVec &&& (Int64.ofInt 255).toBitVec).toInt := rfl
  have e2 : ((Int64.ofInt y).toBitVec &&& (Int64.ofInt 255).toBitVec).toNat = (y % 18446744073709551616).toNat % 256 := by
    rw [BitVec.toNat_and, Int64.toBitVec_ofInt, BitVec.toNat_ofInt, show (Int64.ofInt 255).toBitVec.toNat = 255 from by decide, land_n]
    rfl
  rw [e, BitVec.toInt_eq_toNat_of_lt (by rw [e2]; omega), e2]
  omega
theorem lshr_n (x : Int) {s : Int} {n : Nat} (hs : (((Int32.ofInt s).toInt64 &&& 63).toBitVec.smod 64).toNat = n) : lShr x s = x.bmod 18446744073709551616 / 2 ^ n := by
  have e : lShr x s = ((Int64.ofInt x).toBitVec.sshiftRight' (((Int32.ofInt s).toInt64 &&& 63).toBitVec.smod 64)).toInt := rfl
  rw [e, BitVec.toInt_sshiftRight', hs, Int64.toBitVec_ofInt, BitVec.toInt_ofInt, Int.shiftRight_eq_div_pow]
  rfl
theorem lushr_n (x : Int) {s : Int} {n : Nat} (hs : (((Int32.ofInt s).toInt64.toUInt64 &&& Int64.toUInt64 63).toBitVec % 64).toNat = n) : lUshr x s = (x % 18446744073709551616 / 2 ^ n).bmod 18446744073709551616 := by
  have e : lUshr x s = ((Int64.ofInt x).toBitVec >>> (((Int32.ofInt s).toInt64.toUInt64 &&& Int64.toUInt64 63).toBitVec % 64)).toInt := rfl
  have h2 : ((x % ((2 ^ 64 : Nat) : Int)).toNat : Int) = x % 18446744073709551616 := by
    rw [Int.toNat_of_nonneg (Int.emod_nonneg _ (by decide))]; rfl
  rw [e, BitVec.ushiftRight_eq', hs, BitVec.toInt_eq_toNat_bmod, BitVec.toNat_ushiftRight, Int64.toBitVec_ofInt, BitVec.toNat_ofInt, Nat.shiftRight_eq_div_pow, Int.natCast_ediv, h2, Int.natCast_pow]
  rfl
def byt (w : Int) (i : Nat) : Int := w / 256 ^ i % 256
theorem byte_c (w : Int) {i : Nat} (hi : i < 8) : bAnd (w32 (lUshr w (w32 (8 * (i : Int))))) 255 = byt w i := by
  rw [bAnd255]
  unfold byt w32
  match i, hi with
  | 0, _ => rw [lushr_n w (n := 0) (by decide)]; unfold Int.bmod; simp only []; split <;> split <;> omega
  | 1, _ => rw [lushr_n w (n := 8) (by decide)]; unfold Int.bmod; simp only []; split <;> split <;> omega
  | 2, _ => rw [lushr_n w (n := 16) (by decide)]; unfold Int.bmod; simp only []; split <;> split <;> omega
  | 3, _ => rw [lushr_n w (n := 24) (by decide)]; unfold Int.bmod; simp only []; split <;> split <;> omega
  | 4, _ => rw [lushr_n w (n := 32) (by decide)]; unfold Int.bmod; simp only []; split <;> split <;> omega
  | 5, _ => rw [lushr_n w (n := 40) (by decide)]; unfold Int.bmod; simp only []; split <;> split <;> omega
  | 6, _ => rw [lushr_n w (n := 48) (by decide)]; unfold Int.bmod; simp only []; split <;> split <;> omega
  | 7, _ => rw [lushr_n w (n := 56) (by decide)]; unfold Int.bmod; simp only []; split <;> split <;> omega
theorem byte_m (w : Int) {i : Nat} (hi : i < 8) : w32 (lAnd (lShr w (w32 (8 * (i : Int)))) 255) = byt w i := by
  rw [lAnd255]
  unfold byt
  rw [w32_i (by omega) (by omega)]
  match i, hi with
  | 0, _ => rw [lshr_n w (n := 0) (by decide)]; unfold Int.bmod; simp only []; split <;> omega
  | 1, _ => rw [lshr_n w (n := 8) (by decide)]; unfold Int.bmod; simp only []; split <;> omega
  | 2, _ => rw [lshr_n w (n := 16) (by decide)]; unfold Int.bmod; simp only []; split <;> omega
  | 3, _ => rw [lshr_n w (n := 24) (by decide)]; unfold Int.bmod; simp only []; split <;> omega
  | 4, _ => rw [lshr_n w (n := 32) (by decide)]; unfold Int.bmod; simp only []; split <;> omega
  | 5, _ => rw [lshr_n w (n := 40) (by decide)]; unfold Int.bmod; simp only []; split <;> omega
  | 6, _ => rw [lshr_n w (n := 48) (by decide)]; unfold Int.bmod; simp only []; split <;> omega
  | 7, _ => rw [lshr_n w (n := 56) (by decide)]; unfold Int.bmod; simp only []; split <;> omega
theorem byt_R (w : Int) (i : Nat) : 0 ≤ byt w i ∧ byt w i < 256 := by
  unfold byt
  omega
def fed (σ : St) (w : Int) (i : Nat) : Int := if i < σ.k.nb then σ.k.tp i else byt w (i - σ.k.nb)
def feedS (σ : St) (w n : Int) : Int × St := bif (decide (1 ≤ n) && decide (n ≤ 8)) then (if 50 < (σ.k.nb : Int) + n then σ.no 4 else (((σ.k.nb + n.toNat : Nat) : Int), σ.setX (σ.k.nb + n.toNat) (fed σ w))) else σ.no 1
theorem feed_ok {σ : St} (ok : σ.Ok) (w n : Int) : (feedS σ w n).2.Ok := by
  refine cd_ok (fun h => if_ok (fun _ => ok) (fun q => ?_)) (fun _ => ok)
  obtain ⟨m, rfl, hm, hm2⟩ := wi1_n h
  refine ⟨⟨ok.1.1, ⟨by show σ.k.nb + (m : Int).toNat ≤ 50; omega, fun i hi => ?_⟩, ok.1.2.2⟩, ok.2⟩
  show 0 ≤ fed σ w i ∧ fed σ w i < 256
  unfold fed
  by_cases e : i < σ.k.nb
  · rw [if_pos e]; exact ok.1.2.1.2 i e
  · rw [if_neg e]; exact byt_R _ _
theorem feed_loop (d : Nat) {σ : St} (w : Int) {m : Nat} (hm : m ≤ 8) (hn : σ.k.nb + m ≤ 50) (ν : amM) (e4 : ν 1 4 = (σ.k.nb : Int)) : ∀ (n i : Nat) (μ : amM), i + n = m → same (fun c _ => Nat.beq c 11) ν μ → (∀ j, j < σ.k.nb + i → μ 11 j = fed σ w j) → ∃ μ', At cr2 d 110 3 [] [0, w, 0, (m : Int), (i : Int)] μ = At cr2 d 110 4 [] [0, 0, 0, (m : Int), 0] μ' ∧ same (fun c _ => Nat.beq c 11) ν μ' ∧ (∀ j, j < σ.k.nb + m → μ' 11 j = fed σ w j)
  | 0, i, μ, hi, hs, hq => by
    have hi : i = m := by omega
    subst hi
    rw [B110_3, if_neg (by omega)]
    exact ⟨μ, rfl, hs, hq⟩
  | n + 1, i, μ, hi, hs, hq => by
    have e : μ 1 4 = (σ.k.nb : Int) := (hs _ _ rfl).trans e4
    rw [B110_3, if_pos (by omega), e, w32_i (x := (σ.k.nb : Int) + i) (by omega) (by omega), wr_p (by omega) (by omega), byte_c w (by omega), w32_i (by omega) (by omega), show ((σ.k.nb : Int) + i).toNat = σ.k.nb + i by omega]
    refine feed_loop d w hm hn ν e4 n (i + 1) _ (by omega) (hs.up rfl) (fun j hj => ?_)
    rw [up_if]
    by_cases q : j = σ.k.nb + i
    · rw [if_pos q]
      unfold fed
      rw [if_neg (by omega), show j - σ.k.nb = i by omega]
    · rw [if_neg q]; exact hq j (by omega)
theorem feed_c (d : Nat) {σ : St} {μ : amM} (ok : σ.Ok) (h : CI σ μ) (w n : Int) : OC μ (RD cr2 (d + 20) 110 [0, w, n] μ) (feedS σ w n) := by
  have h50 := ok.1.2.1.1
  have e4 := h.1.2.1.1
  unfold feedS
  rw [M110, isWithin_e, bnd_s, ifb]
  refine OC.cd (fun hn => ?_) (fun _ => (OC.no _ h (by decide) (by decide)).bi (fun _ _ => rfl))
  obtain ⟨m, rfl, hm, hm2⟩ := wi1_n hn
  rw [B110_1, e4, w32_i (by omega) (by omega)]
  by_cases q : 50 < (σ.k.nb : Int) + m
  · rw [if_pos q, if_pos q]
    exact (OC.no _ h (by decide) (by decide)).bi (fun _ _ => rfl)
  · obtain ⟨μ1, g1, g2, g3⟩ := feed_loop (d + 19) (σ := σ) w (m := m) (by omega) (by omega) μ e4 m 0 μ (Nat.zero_add _) same.rf (fun j hj => by
      unfold fed
      rw [if_pos (by omega)]
      exact h.1.2.1.2 j (by omega))
    have e41 : μ1 1 4 = (σ.k.nb : Int) := (g2 _ _ rfl).trans e4
    have g1' : At cr2 (d + 19) 110 3 [] [0, w, 0, (m : Int), 0] μ = At cr2 (d + 19) 110 4 [] [0, 0, 0, (m : Int), 0] μ1 := g1
    rw [if_neg q, if_neg q, B110_2, g1', B110_4, wf_e, up_eq, e41, w32_i (by omega) (by omega), Int.toNat_natCast]
    have s1 : same (or2 gX ScC) μ μ1 := g2.wide (fun c i q => by
      have q := or2_l q
      cases e : Nat.beq c 11 with
      | false => rfl
      | true => rw [Nat.eq_of_beq_eq_true e] at q; cases q)
    have s2 : same FC μ μ1 := g2.wide (fun c i q => by
      cases e : Nat.beq c 11 with
      | false => rfl
      | true => rw [Nat.eq_of_beq_eq_true e] at q; cases q)
    exact ⟨_, rfl, h.setX (s1.up rfl) ⟨up_eq _ _ _ _, fun i hi => g3 i hi⟩, s2.up rfl⟩
theorem feed_mloop (d : Nat) {σ : St} (w : Int) {m : Nat} (hm : m ≤ 8) (hn : σ.k.nb + m ≤ 50) (ν : amM) : ∀ (n i : Nat) (μ : amM), i + n = m → same hX ν μ → μ 72 8 = ((σ.k.nb + i : Nat) : Int) → (∀ j, j < σ.k.nb + i → μ 72 (526 + j) = fed σ w j) → ∃ μ', At cr2 d 170 3 [] [71, w, 0, (m : Int), (i : Int)] μ = some (((σ.k.nb + m : Nat) : Int), μ') ∧ same hX ν μ' ∧ MP 72 (σ.k.nb + m) (fed σ w) μ'
  | 0, i, μ, hi, hs, he, hq => by
    have hi : i = m := by omega
    subst hi
    rw [B170_3, if_neg (by omega), B170_4, he]
    exact ⟨μ, rfl, hs, he, hq⟩
  | n + 1, i, μ, hi, hs, he, hq => by
    have t1 : hX 72 (526 + (σ.k.nb + i)) = true := by
      show (true && (Nat.beq (526 + (σ.k.nb + i)) 8 || Nat.ble 526 (526 + (σ.k.nb + i)))) = true
      rw [ble_t (show 526 ≤ 526 + (σ.k.nb + i) by omega), Bool.or_true]; rfl
    have e8 : up μ 72 (526 + (σ.k.nb + i)) (byt w i) 72 8 = ((σ.k.nb + i : Nat) : Int) := by rw [up_if, if_neg (by omega), he]
    rw [B170_3, if_pos (by omega), he, w32_i (x := 526 + ((σ.k.nb + i : Nat) : Int)) (by omega) (by omega), wr_p (by omega) (by omega), byte_m w (by omega), show ((526 : Int) + ((σ.k.nb + i : Nat) : Int)).toNat = 526 + (σ.k.nb + i) by omega, wf_e, e8, w32_i (by omega) (by omega), w32_i (by omega) (by omega)]
    refine feed_mloop d w hm hn ν n (i + 1) _ (by omega) ((hs.up t1).up rfl) (up_eq _ _ _ _) (fun j hj => ?_)
    rw [up_if, if_neg (by omega), up_if]
    by_cases q : j = σ.k.nb + i
    · rw [if_pos (by omega)]
      unfold fed
      rw [if_neg (by omega), show j - σ.k.nb = i by omega]
    · rw [if_neg (by omega)]; exact hq j (by omega)
theorem hX_F {μ μ' : amM} (h : same hX μ μ') : same FM μ μ' := by
  refine h.wide (fun c i q => ?_)
  unfold hX
  by_cases e : c = 72
  · subst e; cases q
  · rw [beq_f e]; rfl
theorem feed_m (d : Nat) {σ : St} {μ : amM} (ok : σ.Ok) (h : MI σ μ) (w n : Int) : OM μ (RD cr2 (d + 20) 170 [71, w, n] μ) (feedS σ w n) := by
  have h50 := ok.1.2.1.1
  have e8 := h.1.2.1.1
  unfold feedS
  rw [M170, in_e, bnd_s, ifb]
  refine OM.cd (fun hn => ?_) (fun _ => (OM.no _ ok h (by decide) (by decide)).bi (fun _ _ => rfl))
  obtain ⟨m, rfl, hm, hm2⟩ := wi1_n hn
  rw [B170_1, e8, w32_i (by omega) (by omega)]
  by_cases q : 50 < (σ.k.nb : Int) + m
  · rw [if_pos q, if_pos q]
    exact (OM.no _ ok h (by decide) (by decide)).bi (fun _ _ => rfl)
  · obtain ⟨μ1, g1, g2, g3⟩ := feed_mloop (d + 19) (σ := σ) w (m := m) (by omega) (by omega) μ m 0 μ (Nat.zero_add _) same.rf e8 (fun j hj => by
      unfold fed
      rw [if_pos (by omega)]
      exact h.1.2.1.2 j (by omega))
    rw [if_neg q, if_neg q, B170_2, Int.toNat_natCast]
    exact ⟨μ1, g1, h.setX ok g2.l g3, hX_F g2⟩
