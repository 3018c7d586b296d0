/-! bits of ints -/
theorem am_tn (a : Int) : ((Int32.ofInt a).toBitVec.toNat : Int) = a % 4294967296 := by
  have h1 : (Int32.ofInt a).toBitVec = BitVec.ofInt 32 a := rfl
  rw [h1, BitVec.toNat_ofInt]
  have h2 : (0 : Int) ≤ a % ((2 ^ 32 : Nat) : Int) := Int.emod_nonneg _ (by decide)
  rw [Int.toNat_of_nonneg h2]
  rfl
theorem am_nIi {n : Nat} (h : n < 2147483648) : (nI n).toInt = (n : Int) := nI_toInt (by omega)
theorem am_and_m (a m : Int) (k : Nat) (hm : (Int32.ofInt m).toBitVec.toNat = 2 ^ k - 1) (hk : (2 : Int) ^ k ∣ 4294967296) (hs : 2 ^ k ≤ 2147483648) : am_and a m = a % 2 ^ k := by
  unfold am_and
  have hp : 0 < 2 ^ k := Nat.pow_pos (by decide)
  rw [pk_and (Int32.ofInt a) k hm, am_nIi (Nat.lt_of_lt_of_le (Nat.mod_lt _ hp) hs)]
  rw [Int.natCast_emod, am_tn]
  have h2 : (((2 ^ k : Nat)) : Int) = (2 : Int) ^ k := by simp
  rw [h2, Int.emod_emod_of_dvd _ hk]
theorem am_and1 (a : Int) : am_and a 1 = a % 2 := am_and_m a 1 1 rfl (by decide) (by decide)
theorem am_and7 (a : Int) : am_and a 7 = a % 8 := am_and_m a 7 3 rfl (by decide) (by decide)
theorem am_and255 (a : Int) : am_and a 255 = a % 256 := am_and_m a 255 8 rfl (by decide) (by decide)
theorem am_sg_in (h : am_H) (p : Int) : 0 ≤ am_sg h p ∧ am_sg h p ≤ 255 := by
  unfold am_sg
  rw [am_and255]
  omega
theorem am_bit_iff (x k : Int) : am_bit x k ↔ x / 2 ^ Int.toNat k % 2 = 1 := by
  unfold am_bit
  rw [am_and1]
