/-! bits of sets -/
def bt (x : Int) (k : Nat) : Bool := (Int32.ofInt x).toBitVec.getLsbD k
theorem am_and_of (a b : Int) : Int32.ofInt (am_and a b) = Int32.ofInt a &&& Int32.ofInt b := by unfold am_and; simp
theorem am_or_of (a b : Int) : Int32.ofInt (am_or a b) = Int32.ofInt a ||| Int32.ofInt b := by unfold am_or; simp
theorem am_xor_of (a b : Int) : Int32.ofInt (am_xor a b) = Int32.ofInt a ^^^ Int32.ofInt b := by unfold am_xor; simp
theorem bt_and (a b : Int) (k : Nat) : bt (am_and a b) k = (bt a k && bt b k) := by
  unfold bt; rw [am_and_of]; simp
theorem bt_or (a b : Int) (k : Nat) : bt (am_or a b) k = (bt a k || bt b k) := by
  unfold bt; rw [am_or_of]; simp
theorem bt_xor (a b : Int) (k : Nat) : bt (am_xor a b) k = (bt a k != bt b k) := by
  unfold bt; rw [am_xor_of]; simp
theorem bt_ge (x : Int) {k : Nat} (hk : 32 ≤ k) : bt x k = false := by
  unfold bt; simp [hk]
theorem bt_m1 {k : Nat} (hk : k < 32) : bt (-1) k = true := by
  have h : ∀ k : Fin 32, bt (-1) k.val = true := by decide
  exact h ⟨k, hk⟩
theorem bt_0 (k : Nat) : bt 0 k = false := by
  unfold bt; simp
theorem bt_eq (x : Int) {k : Nat} (hk : k < 32) : bt x k = decide (x / 2 ^ k % 2 = 1) := by
  have h1 : bt x k = (Int32.ofInt x).toBitVec.toNat.testBit k := rfl
  rw [h1, Nat.testBit_eq_decide_div_mod_eq]
  have h2 := am_tn x
  generalize (Int32.ofInt x).toBitVec.toNat = n at h2
  have h3 : x / 2 ^ k % 2 = (n : Int) / 2 ^ k % 2 := by
    have e1 : (4294967296 : Int) = 2 ^ k * (2 * 2 ^ (31 - k)) := by
      have h : ∀ k : Fin 32, (4294967296 : Int) = 2 ^ k.val * (2 * 2 ^ (31 - k.val)) := by decide
      exact h ⟨k, hk⟩
    have e2 : x = (n : Int) + 2 ^ k * (2 * (2 ^ (31 - k) * (x / 4294967296))) := by
      have e3 := Int.mul_ediv_add_emod x 4294967296
      rw [h2]
      have e4 : (2 : Int) ^ k * (2 * (2 ^ (31 - k) * (x / 4294967296))) = 4294967296 * (x / 4294967296) := by
        conv => rhs; rw [e1]
        rw [Int.mul_assoc, Int.mul_assoc]
        congr 3
        rw [← e1]
      omega
    have hp : (2 : Int) ^ k ≠ 0 := by
      have := Nat.one_le_two_pow (n := k)
      have h5 : (1 : Int) ≤ 2 ^ k := by exact_mod_cast this
      omega
    rw [e2, Int.add_mul_ediv_left _ _ hp, Int.add_mul_emod_self_left]
  rw [h3]
  have h6 : ((n / 2 ^ k % 2 : Nat) : Int) = (n : Int) / 2 ^ k % 2 := by simp
  rw [← h6]
  congr 1
  apply propext
  omega
theorem bt_iff (x : Int) {k : Nat} (hk : k < 32) : bt x k = true ↔ x / 2 ^ k % 2 = 1 := by
  rw [bt_eq x hk]; simp
theorem am_bit_bt {x k : Int} (h0 : 0 ≤ k) (h1 : k ≤ 31) : am_bit x k ↔ bt x (Int.toNat k) = true := by
  rw [am_bit_iff, bt_iff x (by omega)]
theorem am_bit_bn {x : Int} {k : Nat} (h1 : k ≤ 31) : am_bit x (k : Int) ↔ bt x k = true := by
  rw [am_bit_bt (by omega) (by omega)]; simp
theorem am_inI_and (a b : Int) : am_inI (am_and a b) := by
  unfold am_and; exact ⟨Int32.le_toInt _, Int32.toInt_le _⟩
theorem am_inI_or (a b : Int) : am_inI (am_or a b) := by
  unfold am_or; exact ⟨Int32.le_toInt _, Int32.toInt_le _⟩
theorem am_inI_xor (a b : Int) : am_inI (am_xor a b) := by
  unfold am_xor; exact ⟨Int32.le_toInt _, Int32.toInt_le _⟩
/-- ints with the same bits are the same -/
theorem bt_ext {x y : Int} (hx : am_inI x) (hy : am_inI y) (h : ∀ k, k < 32 → bt x k = bt y k) : x = y := by
  have h2 : (Int32.ofInt x).toBitVec = (Int32.ofInt y).toBitVec := by
    apply BitVec.eq_of_getLsbD_eq
    intro i hi
    exact h i hi
  have h3 : Int32.ofInt x = Int32.ofInt y := by
    exact Int32.toBitVec_inj.mp h2
  have h4 := Int32.toInt_ofInt_of_le (n := x) (by omega) (by omega)
  have h5 := Int32.toInt_ofInt_of_le (n := y) (by omega) (by omega)
  rw [← h4, ← h5, h3]
theorem bt_p2 {j : Nat} (k : Nat) (hj : j < 31) : bt (2 ^ j) k = decide (k = j) := by
  by_cases hk : k < 32
  · have h : ∀ j : Fin 31, ∀ k : Fin 32, bt (2 ^ j.val) k.val = decide (k.val = j.val) := by decide +kernel
    exact h ⟨j, hj⟩ ⟨k, hk⟩
  · rw [bt_ge _ (by omega)]
    symm; rw [decide_eq_false_iff_not]; omega
theorem bt_p2' {j : Nat} (k : Nat) (hj : j < 31) : bt (1 * 2 ^ j) k = decide (k = j) := by
  rw [Int.one_mul, bt_p2 k hj]
theorem bt_out {x : Int} {n k : Nat} (h0 : 0 ≤ x) (h1 : x < 2 ^ n) (hk : n ≤ k) : bt x k = false := by
  by_cases h32 : k < 32
  · have h2 : x / 2 ^ k = 0 := by
      apply Int.ediv_eq_zero_of_lt h0
      have h3 : (2 : Int) ^ n ≤ 2 ^ k := by
        have := Nat.pow_le_pow_right (n := 2) (by decide) hk
        exact_mod_cast this
      omega
    rw [bt_eq x h32, h2]; rfl
  · exact bt_ge x (by omega)
theorem bt_bnd_nn {x : Int} (hx : am_inI x) (h : bt x 31 = false) : 0 ≤ x := by
  rw [bt_eq x (by decide)] at h
  simp only [decide_eq_false_iff_not] at h
  omega
theorem bt_lt {x : Int} {n : Nat} (hx : am_inI x) (hn : n < 32) (h : ∀ k, n ≤ k → k < 32 → bt x k = false) : 0 ≤ x ∧ x < 2 ^ n := by
  have h0 := bt_bnd_nn hx (h 31 (by omega) (by decide))
  refine ⟨h0, ?_⟩
  obtain ⟨m, rfl⟩ := Int.eq_ofNat_of_zero_le h0
  have h3 : m < 2 ^ n := by
    apply Nat.lt_pow_two_of_testBit
    intro i hi
    by_cases h32 : i < 32
    · have h4 := h i hi h32
      rw [bt_eq _ h32] at h4
      simp only [decide_eq_false_iff_not] at h4
      rw [Nat.testBit_eq_decide_div_mod_eq]
      simp only [decide_eq_false_iff_not]
      intro h5
      apply h4
      exact_mod_cast h5
    · apply Nat.testBit_lt_two_pow
      have : 2 ^ 32 ≤ 2 ^ i := Nat.pow_le_pow_right (by decide) (by omega)
      omega
  exact_mod_cast h3
theorem bt_full {n k : Nat} (hn : n < 31) : bt (2 ^ n - 1) k = decide (k < n) := by
  by_cases hk : k < 32
  · have h : ∀ n : Fin 31, ∀ k : Fin 32, bt (2 ^ n.val - 1) k.val = decide (k.val < n.val) := by decide +kernel
    exact h ⟨n, hn⟩ ⟨k, hk⟩
  · rw [bt_ge _ (by omega)]
    symm; rw [decide_eq_false_iff_not]; omega
theorem p2_le {a b : Nat} (h : a ≤ b) : (2 : Int) ^ a ≤ 2 ^ b := by
  have := Nat.pow_le_pow_right (n := 2) (by decide) h
  exact_mod_cast this
theorem p2_pos (a : Nat) : (1 : Int) ≤ 2 ^ a := by
  have := Nat.one_le_two_pow (n := a)
  exact_mod_cast this
