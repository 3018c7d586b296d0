/-! numbers: the machine's and the small machine's -/
theorem am_i32 {x : Int} (h : am_inI x) : (Int32.ofInt x).toInt = x := Int32.toInt_ofInt_of_le (by omega) (by omega)
theorem am_i64 {x : Int} (h : am_inL x) : (Int64.ofInt x).toInt = x := Int64.toInt_ofInt_of_le (by omega) (by omega)
theorem am_eq32 {a b : Int} (ha : am_inI a) (hb : am_inI b) : Int32.ofInt a = Int32.ofInt b ↔ a = b := by
  rw [← Int32.toInt_inj, am_i32 ha, am_i32 hb]
theorem am_lt32 {a b : Int} (ha : am_inI a) (hb : am_inI b) : Int32.ofInt a < Int32.ofInt b ↔ a < b := by
  rw [Int32.lt_iff_toInt_lt, am_i32 ha, am_i32 hb]
theorem am_le32 {a b : Int} (ha : am_inI a) (hb : am_inI b) : Int32.ofInt a ≤ Int32.ofInt b ↔ a ≤ b := by
  rw [Int32.le_iff_toInt_le, am_i32 ha, am_i32 hb]
theorem am_rg32 (x : Int32) : am_inI x.toInt := by
  have h1 := Int32.le_toInt x
  have h2 := Int32.toInt_lt x
  exact ⟨by omega, by omega⟩
theorem am_rg64 (x : Int64) : am_inL x.toInt := by
  have h1 := Int64.le_toInt x
  have h2 := Int64.toInt_lt x
  exact ⟨by omega, by omega⟩
theorem am_add32 (a b : Int) : Int32.ofInt a + Int32.ofInt b = Int32.ofInt (a + b) := (Int32.ofInt_add a b).symm
theorem am_sub32 (a b : Int) : Int32.ofInt a - Int32.ofInt b = Int32.ofInt (a - b) := (Int32.ofInt_sub a b).symm
theorem am_mul32 (a b : Int) : Int32.ofInt a * Int32.ofInt b = Int32.ofInt (a * b) := (Int32.ofInt_mul a b).symm
theorem am_neg32 (a : Int) : -Int32.ofInt a = Int32.ofInt (-a) := (Int32.ofInt_neg a).symm
theorem am_add64 (a b : Int) : Int64.ofInt a + Int64.ofInt b = Int64.ofInt (a + b) := (Int64.ofInt_add a b).symm
theorem am_sub64 (a b : Int) : Int64.ofInt a - Int64.ofInt b = Int64.ofInt (a - b) := (Int64.ofInt_sub a b).symm
theorem am_mul64 (a b : Int) : Int64.ofInt a * Int64.ofInt b = Int64.ofInt (a * b) := (Int64.ofInt_mul a b).symm
theorem am_nI {x : Int} (h : 0 ≤ x) : Int32.ofInt x = nI x.toNat := by
  obtain ⟨n, rfl⟩ := Int.eq_ofNat_of_zero_le h
  rfl
theorem am_lN {x : Int} (h : 0 ≤ x) : Int64.ofInt x = lN x.toNat := by
  obtain ⟨n, rfl⟩ := Int.eq_ofNat_of_zero_le h
  rfl
theorem am_div32 {a b : Int} (ha : am_inI a) (hb : am_inI b) (h0 : 0 ≤ a) (h1 : 0 < b) : Int32.ofInt a / Int32.ofInt b = Int32.ofInt (a / b) := by
  obtain ⟨n, rfl⟩ := Int.eq_ofNat_of_zero_le h0
  obtain ⟨k, rfl⟩ := Int.eq_ofNat_of_zero_le (Int.le_of_lt h1)
  exact pk_div (a := n) (d := k) (by omega) (by omega) (by omega)
theorem am_rem32 {a b : Int} (ha : am_inI a) (hb : am_inI b) (h0 : 0 ≤ a) (h1 : 0 < b) : Int32.ofInt a - Int32.ofInt a / Int32.ofInt b * Int32.ofInt b = Int32.ofInt (a % b) := by
  obtain ⟨n, rfl⟩ := Int.eq_ofNat_of_zero_le h0
  obtain ⟨k, rfl⟩ := Int.eq_ofNat_of_zero_le (Int.le_of_lt h1)
  exact pk_rem (a := n) (d := k) (by omega) (by omega) (by omega)
theorem am_div64 {a b : Int} (ha : am_inL a) (hb : am_inL b) (h0 : 0 ≤ a) (h1 : 0 < b) : Int64.ofInt a / Int64.ofInt b = Int64.ofInt (a / b) := by
  obtain ⟨n, rfl⟩ := Int.eq_ofNat_of_zero_le h0
  obtain ⟨k, rfl⟩ := Int.eq_ofNat_of_zero_le (Int.le_of_lt h1)
  exact pk_lDiv (a := n) (b := k) (by omega) (by omega) (by omega)
theorem am_rem64 {a b : Int} (ha : am_inL a) (hb : am_inL b) (h0 : 0 ≤ a) (h1 : 0 < b) : Int64.ofInt a - Int64.ofInt a / Int64.ofInt b * Int64.ofInt b = Int64.ofInt (a % b) := by
  obtain ⟨n, rfl⟩ := Int.eq_ofNat_of_zero_le h0
  obtain ⟨k, rfl⟩ := Int.eq_ofNat_of_zero_le (Int.le_of_lt h1)
  exact pk_lRem (a := n) (b := k) (by omega) (by omega) (by omega)
theorem am_sl : ∀ n : Fin 32, ((nI n.val &&& 31).toBitVec.smod 32).toNat = n.val := by decide
theorem am_shl32 {a b : Int} (ha : am_inI (a * 2 ^ b.toNat)) (h0 : 0 ≤ a) (h1 : 0 ≤ b) (h2 : b ≤ 31) : Int32.ofInt a <<< (Int32.ofInt b &&& 31) = Int32.ofInt (a * 2 ^ b.toNat) := by
  obtain ⟨n, rfl⟩ := Int.eq_ofNat_of_zero_le h0
  obtain ⟨k, rfl⟩ := Int.eq_ofNat_of_zero_le h1
  have hk : k < 32 := by omega
  have e1 : ((n : Int) * 2 ^ (k : Int).toNat) = ((n * 2 ^ k : Nat) : Int) := by simp
  rw [e1] at ha ⊢
  exact pk_shlN (n := n) _ k (am_sl ⟨k, hk⟩) (by omega)
theorem am_shr32 {a b : Int} (ha : am_inI a) (h1 : 0 ≤ b) (h2 : b ≤ 31) : Int32.ofInt a >>> (Int32.ofInt b &&& 31) = Int32.ofInt (a / 2 ^ b.toNat) := by
  obtain ⟨k, rfl⟩ := Int.eq_ofNat_of_zero_le h1
  have hk : k < 32 := by omega
  apply Int32.toInt_inj.mp
  have e1 : (Int32.ofInt a >>> (Int32.ofInt (k : Int) &&& 31)).toInt = a / 2 ^ k := by
    have := pk_shr (Int32.ofInt a) (Int32.ofInt (k : Int) &&& 31) k (am_sl ⟨k, hk⟩)
    rw [this, am_i32 ha, Int.shiftRight_eq_div_pow]
    simp
  have hp : (0 : Int) < 2 ^ k := Int.pow_pos (by decide)
  have h3 : -2147483648 ≤ a / 2 ^ k := by
    rw [Int.le_ediv_iff_mul_le hp]
    have h7 : (1 : Int) ≤ 2 ^ k := hp
    generalize (2 : Int) ^ k = P at h7 ⊢
    omega
  have h4 : a / 2 ^ k ≤ 2147483647 := by
    have h5 : a / 2 ^ k < 2147483648 := by
      rw [Int.ediv_lt_iff_lt_mul hp]
      have : (1 : Int) ≤ 2 ^ k := hp
      have := Int.mul_le_mul_of_nonneg_left (c := (2147483648 : Int)) this (by decide)
      omega
    omega
  rw [e1]
  exact (am_i32 ⟨h3, h4⟩).symm
theorem am_shr_in {a : Int} (ha : am_inI a) (k : Nat) : am_inI (a / 2 ^ k) := by
  have hp : (0 : Int) < 2 ^ k := Int.pow_pos (by decide)
  have h1 : (1 : Int) ≤ 2 ^ k := hp
  constructor
  · rw [Int.le_ediv_iff_mul_le hp]
    generalize (2 : Int) ^ k = P at h1 ⊢
    omega
  · have h5 : a / 2 ^ k < 2147483648 := by
      rw [Int.ediv_lt_iff_lt_mul hp]
      have := Int.mul_le_mul_of_nonneg_left (c := (2147483648 : Int)) h1 (by decide)
      omega
    omega
theorem am_sl64 : ∀ n : Fin 63, ((nI n.val).toInt64 &&& 63) = lN n.val := by decide
theorem am_sm64 : ∀ n : Fin 63, (BitVec.ofNat 64 n.val).smod 64 = BitVec.ofNat 64 n.val := by decide
theorem am_shl64 {a b : Int} (ha : am_inL (a * 2 ^ b.toNat)) (h0 : 0 ≤ a) (h1 : 0 ≤ b) (h2 : b ≤ 62) : Int64.ofInt a <<< ((Int32.ofInt b).toInt64 &&& 63) = Int64.ofInt (a * 2 ^ b.toNat) := by
  obtain ⟨n, rfl⟩ := Int.eq_ofNat_of_zero_le h0
  obtain ⟨k, rfl⟩ := Int.eq_ofNat_of_zero_le h1
  have hk : k < 63 := by omega
  have e1 : ((n : Int) * 2 ^ (k : Int).toNat) = ((n * 2 ^ k : Nat) : Int) := by simp
  rw [e1] at ha ⊢
  show lN n <<< ((nI k).toInt64 &&& 63) = lN (n * 2 ^ k)
  rw [am_sl64 ⟨k, hk⟩]
  apply Int64.toBitVec_inj.mp
  show (lN n).toBitVec <<< ((lN k).toBitVec.smod 64) = BitVec.ofNat 64 (n * 2 ^ k)
  have e2 : (lN k).toBitVec = BitVec.ofNat 64 k := rfl
  have e3 : (lN n).toBitVec = BitVec.ofNat 64 n := rfl
  rw [e2, e3, am_sm64 ⟨k, hk⟩]
  apply BitVec.eq_of_toNat_eq
  simp [BitVec.toNat_shiftLeft, Nat.shiftLeft_eq, Nat.mod_eq_of_lt (show k < 18446744073709551616 by omega)]
theorem am_lng {a : Int} (ha : am_inI a) : (Int32.ofInt a).toInt64 = Int64.ofInt a := by
  apply Int64.toInt_inj.mp
  rw [Int32.toInt_toInt64, am_i32 ha, am_i64 ⟨by omega, by omega⟩]
theorem am_lcmp_eq {a b : Int} (ha : am_inL a) (hb : am_inL b) : lg_cmp (Int64.ofInt a) (Int64.ofInt b) = Int32.ofInt (am_lcmp a b) := by
  unfold lg_cmp am_lcmp
  have h1 : (Int64.ofInt b < Int64.ofInt a) ↔ b < a := by rw [Int64.lt_iff_toInt_lt, am_i64 ha, am_i64 hb]
  have h2 : (Int64.ofInt a = Int64.ofInt b) ↔ a = b := by rw [← Int64.toInt_inj, am_i64 ha, am_i64 hb]
  simp only [gt_iff_lt, h1, h2]
  rcases Int.lt_trichotomy a b with h | h | h
  · rw [if_neg (by omega), if_neg (by omega), if_pos h]; rfl
  · rw [if_neg (by omega), if_pos h, if_neg (by omega), if_pos h]; rfl
  · rw [if_pos h, if_neg (by omega), if_neg (by omega)]; rfl
theorem am_clamp {x : Int} (h : am_inI x) : (Int32.ofInt x).toNatClampNeg = x.toNat := by
  show (Int32.ofInt x).toInt.toNat = x.toNat
  rw [am_i32 h]
theorem am_vin {x : Int} {n : Nat} (hx : am_inI x) (h0 : 0 ≤ x) (h1 : x < n) : vp_in (Int32.ofInt x) n := by
  rw [vp_in_iff, am_i32 hx]
  exact ⟨h0, h1⟩
