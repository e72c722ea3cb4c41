/-! ===== whole numbers for the machine's ints ===== -/
def R32 (x : Int) : Prop := -2147483648 ≤ x ∧ x < 2147483648
def R64 (x : Int) : Prop := -9223372036854775808 ≤ x ∧ x < 9223372036854775808
theorem w32_id {x : Int} (h : R32 x) : w32 x = x := by
  obtain ⟨h1, h2⟩ := h
  exact Int.bmod_eq_of_le (by simpa using h1) (by simpa using h2)
theorem w64_id {x : Int} (h : R64 x) : w64 x = x := by
  obtain ⟨h1, h2⟩ := h
  exact Int.bmod_eq_of_le (by simpa using h1) (by simpa using h2)
theorem w32_R (x : Int) : R32 (w32 x) := by
  have h1 := Int.le_bmod (x := x) (m := 4294967296) (by decide)
  have h2 := Int.bmod_lt (x := x) (m := 4294967296) (by decide)
  unfold R32 w32
  omega
theorem w64_R (x : Int) : R64 (w64 x) := by
  have h1 := Int.le_bmod (x := x) (m := 18446744073709551616) (by decide)
  have h2 := Int.bmod_lt (x := x) (m := 18446744073709551616) (by decide)
  unfold R64 w64
  omega
theorem i32_R (x : Int32) : R32 x.toInt := ⟨by simpa using x.le_toInt, by simpa using x.toInt_lt⟩
theorem i64_R (x : Int64) : R64 x.toInt := ⟨by simpa using x.le_toInt, by simpa using x.toInt_lt⟩
theorem t32 {x : Int} (h : R32 x) : (Int32.ofInt x).toInt = x := Int32.toInt_ofInt_of_le (by simpa using h.1) (by simpa using h.2)
theorem t64 {x : Int} (h : R64 x) : (Int64.ofInt x).toInt = x := Int64.toInt_ofInt_of_le (by simpa using h.1) (by simpa using h.2)
theorem t32w (x : Int) : (Int32.ofInt x).toInt = w32 x := Int32.toInt_ofInt
theorem t64w (x : Int) : (Int64.ofInt x).toInt = w64 x := Int64.toInt_ofInt
theorem o32 (x : Int) : Int32.ofInt (w32 x) = Int32.ofInt x := Int32.toInt_inj.mp (by rw [t32 (w32_R x), t32w])
theorem o64 (x : Int) : Int64.ofInt (w64 x) = Int64.ofInt x := Int64.toInt_inj.mp (by rw [t64 (w64_R x), t64w])
theorem n_add (a b : Int) : Int32.ofInt a + Int32.ofInt b = Int32.ofInt (w32 (a + b)) := by rw [o32, Int32.ofInt_add]
theorem n_sub (a b : Int) : Int32.ofInt a - Int32.ofInt b = Int32.ofInt (w32 (a - b)) := by rw [o32, Int32.ofInt_sub]
theorem n_mul (a b : Int) : Int32.ofInt a * Int32.ofInt b = Int32.ofInt (w32 (a * b)) := by rw [o32, Int32.ofInt_mul]
theorem n_neg (a : Int) : -Int32.ofInt a = Int32.ofInt (w32 (-a)) := by rw [o32, Int32.ofInt_neg]
theorem n_div {a b : Int} (ha : R32 a) (hb : R32 b) : Int32.ofInt a / Int32.ofInt b = Int32.ofInt (w32 (a.tdiv b)) := Int32.toInt_inj.mp (by rw [Int32.toInt_div, t32 ha, t32 hb, t32 (w32_R _)]; rfl)
theorem n_rem {a b : Int} (ha : R32 a) (hb : R32 b) : Int32.ofInt a - Int32.ofInt a / Int32.ofInt b * Int32.ofInt b = Int32.ofInt (a.tmod b) := by
  have h := rem_toInt (Int32.ofInt a) (Int32.ofInt b)
  rw [t32 ha, t32 hb] at h
  rw [← h, Int32.ofInt_toInt]
theorem n_remR {a b : Int} (ha : R32 a) (hb : R32 b) : R32 (a.tmod b) := by
  have h := rem_toInt (Int32.ofInt a) (Int32.ofInt b)
  rw [t32 ha, t32 hb] at h
  rw [← h]
  exact i32_R _
theorem n_and (a b : Int) : Int32.ofInt a &&& Int32.ofInt b = Int32.ofInt (bAnd a b) := (Int32.ofInt_toInt _).symm
theorem n_or (a b : Int) : Int32.ofInt a ||| Int32.ofInt b = Int32.ofInt (bOr a b) := (Int32.ofInt_toInt _).symm
theorem n_xor (a b : Int) : Int32.ofInt a ^^^ Int32.ofInt b = Int32.ofInt (bXor a b) := (Int32.ofInt_toInt _).symm
theorem n_shl (a b : Int) : Int32.ofInt a <<< (Int32.ofInt b &&& 31) = Int32.ofInt (bShl a b) := (Int32.ofInt_toInt _).symm
theorem n_shr (a b : Int) : Int32.ofInt a >>> (Int32.ofInt b &&& 31) = Int32.ofInt (bShr a b) := (Int32.ofInt_toInt _).symm
theorem n_ushr (a b : Int) : ((Int32.ofInt a).toUInt32 >>> ((Int32.ofInt b).toUInt32 &&& Int32.toUInt32 31)).toInt32 = Int32.ofInt (bUshr a b) := (Int32.ofInt_toInt _).symm
theorem m_add (a b : Int) : Int64.ofInt a + Int64.ofInt b = Int64.ofInt (w64 (a + b)) := by rw [o64, Int64.ofInt_add]
theorem m_mul (a b : Int) : Int64.ofInt a * Int64.ofInt b = Int64.ofInt (w64 (a * b)) := by rw [o64, Int64.ofInt_mul]
theorem m_and (a b : Int) : Int64.ofInt a &&& Int64.ofInt b = Int64.ofInt (lAnd a b) := (Int64.ofInt_toInt _).symm
theorem m_or (a b : Int) : Int64.ofInt a ||| Int64.ofInt b = Int64.ofInt (lOr a b) := (Int64.ofInt_toInt _).symm
theorem m_shl (a b : Int) : Int64.ofInt a <<< ((Int32.ofInt b).toInt64 &&& 63) = Int64.ofInt (lShl a b) := (Int64.ofInt_toInt _).symm
theorem m_shr (a b : Int) : Int64.ofInt a >>> ((Int32.ofInt b).toInt64 &&& 63) = Int64.ofInt (lShr a b) := (Int64.ofInt_toInt _).symm
theorem m_ushr (a b : Int) : ((Int64.ofInt a).toUInt64 >>> ((Int32.ofInt b).toInt64.toUInt64 &&& Int64.toUInt64 63)).toInt64 = Int64.ofInt (lUshr a b) := (Int64.ofInt_toInt _).symm
theorem n_i2l {a : Int} (ha : R32 a) : (Int32.ofInt a).toInt64 = Int64.ofInt a := Int64.toInt_inj.mp (by rw [Int32.toInt_toInt64, t32 ha, t64 ⟨by have := ha.1; omega, by have := ha.2; omega⟩])
theorem n_l2i {a : Int} (ha : R64 a) : (Int64.ofInt a).toInt32 = Int32.ofInt (w32 a) := Int32.toInt_inj.mp (by rw [Int64.toInt_toInt32, t64 ha, t32 (w32_R _)]; rfl)
theorem n_i2bR (a : Int) : R32 (a.bmod 256) := by
  have h1 := Int.le_bmod (x := a) (m := 256) (by decide)
  have h2 := Int.bmod_lt (x := a) (m := 256) (by decide)
  unfold R32; omega
theorem n_i2sR (a : Int) : R32 (a.bmod 65536) := by
  have h1 := Int.le_bmod (x := a) (m := 65536) (by decide)
  have h2 := Int.bmod_lt (x := a) (m := 65536) (by decide)
  unfold R32; omega
theorem n_i2b {a : Int} (ha : R32 a) : (Int32.ofInt a).toInt8.toInt32 = Int32.ofInt (a.bmod 256) := Int32.toInt_inj.mp (by
  rw [Int8.toInt_toInt32, Int32.toInt_toInt8, t32 ha, t32 (n_i2bR a)]; try rfl)
theorem n_i2s {a : Int} (ha : R32 a) : (Int32.ofInt a).toInt16.toInt32 = Int32.ofInt (a.bmod 65536) := Int32.toInt_inj.mp (by
  rw [Int16.toInt_toInt32, Int32.toInt_toInt16, t32 ha, t32 (n_i2sR a)]; try rfl)
theorem n_cmp {a b : Int} (ha : R64 a) (hb : R64 b) : lg_cmp (Int64.ofInt a) (Int64.ofInt b) = Int32.ofInt (if a < b then -1 else if a = b then 0 else 1) := by
  have e1 : Int64.ofInt b < Int64.ofInt a ↔ b < a := by rw [Int64.lt_iff_toInt_lt, t64 ha, t64 hb]
  have e2 : Int64.ofInt a = Int64.ofInt b ↔ a = b := ⟨fun h => by rw [← t64 ha, ← t64 hb, h], fun h => by rw [h]⟩
  unfold lg_cmp
  by_cases h : a < b
  · have h1 : ¬ b < a := by omega
    have h2 : ¬ a = b := by omega
    simp [e1, e2, h, h1, h2]; try rfl
  · by_cases h3 : a = b
    · subst h3; simp; try rfl
    · have h1 : b < a := by omega
      simp [e1, h1, h, h3]; try rfl
theorem n_lt {a b : Int} (ha : R32 a) (hb : R32 b) : Int32.ofInt a < Int32.ofInt b ↔ a < b := by rw [Int32.lt_iff_toInt_lt, t32 ha, t32 hb]
theorem n_le {a b : Int} (ha : R32 a) (hb : R32 b) : Int32.ofInt a ≤ Int32.ofInt b ↔ a ≤ b := by rw [Int32.le_iff_toInt_le, t32 ha, t32 hb]
theorem n_eq {a b : Int} (ha : R32 a) (hb : R32 b) : Int32.ofInt a = Int32.ofInt b ↔ a = b := ⟨fun h => by rw [← t32 ha, ← t32 hb, h], fun h => by rw [h]⟩
theorem R32_0 : R32 0 := ⟨by decide, by decide⟩
theorem n_clamp {a : Int} (ha : R32 a) : (Int32.ofInt a).toNatClampNeg = a.toNat := by
  show (Int32.ofInt a).toInt.toNat = _
  rw [t32 ha]
theorem n_in {i : Int} {n : Nat} (hi : R32 i) (h : 0 ≤ i ∧ i < (n : Int)) : vp_in (Int32.ofInt i) n := by
  rw [vp_in_iff, t32 hi]
  exact h
