/-! euc: shares in lowest terms -/
def WH : Int := 26771144400
theorem lcmp0 {a b : Int} : am_lcmp a b = 0 ↔ a = b := by
  unfold am_lcmp
  split
  · omega
  · split <;> omega
theorem lcmp_le {a b : Int} : am_lcmp a b ≤ 0 ↔ a ≤ b := by
  unfold am_lcmp
  split
  · omega
  · split <;> omega
theorem gcd_step {x y : Nat} : Nat.gcd y (x % y) = Nat.gcd x y := by
  rw [Nat.gcd_comm x y, Nat.gcd_rec y x]; exact Nat.gcd_comm _ _
section
variable {L : Nat} {xs : Nat → Int} {P : Nat → List am_V → am_H → am_K → Prop} {d : Nat} {h : am_H} {K : am_K}
theorem kX12_shared {a b : Nat} (H : K (1, (Nat.gcd a b : Nat)) h) : am_C true L xs P (d + 1) 200 [(1, (a : Int)), (1, (b : Int))] h K := by
  refine eX12_shared (bX12_shared_0 ?_)
  have key : ∀ (n x y : Nat) (v8 : am_V), y ≤ n → Nat.gcd x y = Nat.gcd a b → tX12_shared (h 0 0 + (0 : Nat)) L xs (am_C true L xs P d) K 6 [(1, (a : Int)), (9, 0), (1, (b : Int)), (9, 0), (1, (x : Int)), (9, 0), (1, (y : Int)), (9, 0), v8, (9, 0)] [] h := by
    intro n
    induction n with
    | zero =>
      intro x y v8 hy hg
      have : y = 0 := by omega
      subst this
      refine bX12_shared_6 ⟨fun _ => bX12_shared_31 ?_, fun z => absurd (lcmp0.mpr rfl) z⟩
      rw [Nat.gcd_zero_right] at hg
      rw [hg]; exact H
    | succ n ih =>
      intro x y v8 hy hg
      by_cases e : y = 0
      · exact ih x y v8 (by omega) hg
      · refine bX12_shared_6 ⟨fun z => by rw [lcmp0] at z; omega, fun _ => ⟨by omega, ?_⟩⟩
        have hlt : x % y < y := Nat.mod_lt _ (by omega)
        have := ih y (x % y) (1, ((x % y : Nat) : Int)) (by omega) (by rw [gcd_step]; exact hg)
        rw [Int.natCast_emod] at this
        exact this
  exact key b a b _ (Nat.le_refl _) rfl
theorem mod_half {x y : Nat} (hy : 0 < x % y) (hyy : 0 < y) : 2 * (y % (x % y)) < y := by
  have h1 : x % y < y := Nat.mod_lt _ hyy
  have h2 : y % (x % y) < x % y := Nat.mod_lt _ hy
  generalize x % y = z at *
  have h3 : y % z + z * (y / z) = y := Nat.mod_add_div y z
  have h4 : 1 ≤ y / z := (Nat.le_div_iff_mul_le hy).mpr (by omega)
  have h5 : z * 1 ≤ z * (y / z) := Nat.mul_le_mul_left z h4
  omega
theorem kX7_commonDivisor {p : Nat} (hp : p < 2 ^ 40) (H : K (1, (Nat.gcd 26771144400 p : Nat)) h) : am_C true L xs P (d + 1) 77 [(1, (p : Int))] h K := by
  refine eX7_commonDivisor (bX7_commonDivisor_0 ?_)
  have fin : ∀ (x : Nat) (s : Int) (v : am_V), Nat.gcd x 0 = Nat.gcd 26771144400 p → tX7_commonDivisor (h 0 0 + (0 : Nat)) L xs (am_C true L xs P d) K 10 [(1, (p : Int)), (9, 0), (1, (x : Int)), (9, 0), (1, ((0 : Nat) : Int)), (9, 0), (0, s), v, (9, 0)] [] h := by
    intro x s v hg
    have hk : K (1, (x : Int)) h := by rw [Nat.gcd_zero_right] at hg; rw [hg]; exact H
    exact bX7_commonDivisor_10 ⟨fun _ => bX7_commonDivisor_44 hk, fun _ => ⟨fun _ => bX7_commonDivisor_44 hk, fun z => absurd (lcmp0.mpr rfl) z⟩⟩
  have key : ∀ (n x y s : Nat) (v : am_V), s + 2 * n ≤ 128 → y < 2 ^ n → Nat.gcd x y = Nat.gcd 26771144400 p → tX7_commonDivisor (h 0 0 + (0 : Nat)) L xs (am_C true L xs P d) K 10 [(1, (p : Int)), (9, 0), (1, (x : Int)), (9, 0), (1, (y : Int)), (9, 0), (0, (s : Int)), v, (9, 0)] [] h := by
    intro n
    induction n with
    | zero =>
      intro x y s v hs hy hg
      have : y = 0 := by simpa using hy
      subst this
      exact fin x s v hg
    | succ n ih =>
      intro x y s v hs hy hg
      by_cases e : y = 0
      · subst e; exact fin x s v hg
      · refine bX7_commonDivisor_10 ⟨fun z => by omega, fun _ => ⟨fun z => by rw [lcmp0] at z; omega, fun _ => ⟨by omega, by omega, ?_⟩⟩⟩
        rw [← Int.natCast_emod]
        by_cases e2 : x % y = 0
        · rw [e2]
          exact fin y _ _ (by rw [← e2, gcd_step]; exact hg)
        · have hlt : x % y < y := Nat.mod_lt _ (by omega)
          have hh := mod_half (x := x) (y := y) (by omega) (by omega)
          refine bX7_commonDivisor_10 ⟨fun z => by omega, fun _ => ⟨fun z => by rw [lcmp0] at z; omega, fun _ => ⟨by omega, by omega, ?_⟩⟩⟩
          rw [← Int.natCast_emod]
          have := ih (x % y) (y % (x % y)) (s + 2) (1, ((y % (x % y) : Nat) : Int)) (by omega) (by rw [Nat.pow_succ] at hy; omega) (by rw [gcd_step, gcd_step]; exact hg)
          rw [show ((s + 2 : Nat) : Int) = (s : Int) + 1 + 1 by omega] at this
          exact this
  exact key 40 26771144400 p 0 (9, 0) (by decide) hp rfl
/-- u / l is p / WH in lowest terms -/
def Rel (p u l : Int) : Prop := (0 ≤ p) ∧ (0 ≤ u) ∧ (1 ≤ l) ∧ (Nat.gcd u.toNat l.toNat = 1) ∧ (u * WH = p * l)
theorem Rel.p0 {p u l : Int} (s_ : Rel p u l) : 0 ≤ p := s_.1
theorem Rel.u0 {p u l : Int} (s_ : Rel p u l) : 0 ≤ u := s_.2.1
theorem Rel.l1 {p u l : Int} (s_ : Rel p u l) : 1 ≤ l := s_.2.2.1
theorem Rel.cop {p u l : Int} (s_ : Rel p u l) : Nat.gcd u.toNat l.toNat = 1 := s_.2.2.2.1
theorem Rel.eq {p u l : Int} (s_ : Rel p u l) : u * WH = p * l := s_.2.2.2.2
theorem Rel.nat {p u l : Int} (r : Rel p u l) : ∃ k : Nat, 1 ≤ k ∧ p = u * k ∧ WH = l * k ∧ Nat.gcd 26771144400 p.toNat = k := by
  obtain ⟨p0, u0, l1, cop, eq⟩ := r
  obtain ⟨u', eu⟩ : ∃ u' : Nat, u = u' := ⟨u.toNat, by omega⟩
  obtain ⟨l', el⟩ : ∃ l' : Nat, l = l' := ⟨l.toNat, by omega⟩
  obtain ⟨p', ep⟩ : ∃ p' : Nat, p = p' := ⟨p.toNat, by omega⟩
  subst eu el ep
  simp only [Int.toNat_natCast] at cop ⊢
  have eq' : u' * 26771144400 = p' * l' := by
    have : ((u' * 26771144400 : Nat) : Int) = ((p' * l' : Nat) : Int) := by rw [Int.natCast_mul, Int.natCast_mul]; exact eq
    exact_mod_cast this
  have dv : l' ∣ 26771144400 := by
    have h1 : l' ∣ u' * 26771144400 := ⟨p', by rw [eq', Nat.mul_comm]⟩
    exact Nat.Coprime.dvd_of_dvd_mul_left (by rw [Nat.Coprime, Nat.gcd_comm]; exact cop) h1
  obtain ⟨k, hk⟩ := dv
  have k1 : 1 ≤ k := by
    rcases Nat.eq_zero_or_pos k with z | z
    · rw [z] at hk; omega
    · exact z
  have hp : p' = u' * k := by
    rw [hk] at eq'
    have : l' * p' = l' * (u' * k) := by rw [Nat.mul_comm l' p', ← eq', Nat.mul_left_comm]
    exact Nat.eq_of_mul_eq_mul_left (by omega) this
  refine ⟨k, k1, ?_, ?_, ?_⟩
  · rw [hp, Int.natCast_mul]
  · unfold WH
    rw [← Int.natCast_mul, ← hk]; rfl
  · rw [hk, hp, Nat.gcd_mul_right, Nat.gcd_comm l' u', cop, Nat.one_mul]
theorem Rel.bnd {p u l : Int} (r : Rel p u l) : l ≤ WH ∧ u ≤ p := by
  obtain ⟨k, k1, hp, hW, _⟩ := r.nat
  have := r.l1
  have := r.u0
  constructor
  · rw [hW]
    have : l * 1 ≤ l * (k : Int) := Int.mul_le_mul_of_nonneg_left (by omega) (by omega)
    omega
  · rw [hp]
    have : u * 1 ≤ u * (k : Int) := Int.mul_le_mul_of_nonneg_left (by omega) (by omega)
    omega
theorem Rel_0 : Rel 0 0 1 := ⟨by decide, by decide, by decide, by decide, by decide⟩
theorem div_all : ∀ a : Fin 26, 1 ≤ a.val → (WH / (a.val : Int)) * (a.val : Int) = WH := by decide +kernel
/-- one man more with a share among a cells -/
theorem Rel_step {p u l : Int} {a : Nat} (r : Rel p u l) (ha : 1 ≤ a ∧ a ≤ 25) : Rel (p + WH / a) ((u * a + l) / (Nat.gcd (u * a + l).toNat (l * a).toNat : Nat)) (l * a / (Nat.gcd (u * a + l).toNat (l * a).toNat : Nat)) ∧ 1 ≤ Nat.gcd (u * a + l).toNat (l * a).toNat := by
  have hd := div_all ⟨a, by omega⟩ ha.1
  dsimp only at hd
  obtain ⟨p0, u0, l1, cop, eq⟩ := r
  obtain ⟨u', eu⟩ : ∃ u' : Nat, u = u' := ⟨u.toNat, by omega⟩
  obtain ⟨l', el⟩ : ∃ l' : Nat, l = l' := ⟨l.toNat, by omega⟩
  subst eu el
  have eA : (u' : Int) * (a : Int) + (l' : Int) = ((u' * a + l' : Nat) : Int) := by simp
  have eB : (l' : Int) * (a : Int) = ((l' * a : Nat) : Int) := by simp
  rw [eA, eB, Int.toNat_natCast, Int.toNat_natCast]
  have B1 : 1 ≤ l' * a := Nat.mul_pos (by omega) (by omega)
  have hg : 1 ≤ Nat.gcd (u' * a + l') (l' * a) := Nat.gcd_pos_of_pos_right _ B1
  have hA := Nat.div_mul_cancel (Nat.gcd_dvd_left (u' * a + l') (l' * a))
  have hB := Nat.div_mul_cancel (Nat.gcd_dvd_right (u' * a + l') (l' * a))
  have hcop := Nat.gcd_div_gcd_div_gcd_of_pos_right (n := u' * a + l') B1
  have hW : (0 : Int) ≤ WH / (a : Int) := Int.ediv_nonneg (by decide) (by omega)
  have key : ((u' * a + l' : Nat) : Int) * WH = (p + WH / a) * ((l' * a : Nat) : Int) := by
    rw [← eA, ← eB, Int.add_mul, Int.add_mul]
    have e1 : (u' : Int) * (a : Int) * WH = p * ((l' : Int) * (a : Int)) := by
      rw [Int.mul_right_comm, eq, Int.mul_assoc]
    have e2 : WH / (a : Int) * ((l' : Int) * (a : Int)) = (l' : Int) * WH := by
      rw [Int.mul_left_comm, hd]
    rw [e1, e2]
  generalize hgg : Nat.gcd (u' * a + l') (l' * a) = g at *
  generalize u' * a + l' = A at *
  generalize l' * a = B at *
  refine ⟨⟨by omega, ?_, ?_, ?_, ?_⟩, hg⟩
  · exact Int.ediv_nonneg (by omega) (by omega)
  · rw [← Int.natCast_ediv]
    have : B / g ≠ 0 := fun z => by rw [z] at hB; omega
    exact Int.ofNat_le.mpr (Nat.pos_of_ne_zero this)
  · rw [← Int.natCast_ediv, ← Int.natCast_ediv, Int.toNat_natCast, Int.toNat_natCast]
    exact hcop
  · rw [← Int.natCast_ediv, ← Int.natCast_ediv]
    rw [← hA, ← hB] at key
    rw [Int.natCast_mul, Int.natCast_mul] at key
    have : (g : Int) * (((A / g : Nat) : Int) * WH) = (g : Int) * ((p + WH / (a : Int)) * ((B / g : Nat) : Int)) := by
      rw [← Int.mul_assoc, Int.mul_comm (g : Int), key, Int.mul_left_comm (g : Int), Int.mul_comm (g : Int)]
    exact Int.eq_of_mul_eq_mul_left (by omega) this
/-- the class's upper and lower of a cell -/
theorem kX7_upper {c : Nat} {u l : Int} (hc : c < 25) (r : Rel (h 54 c) u l) (hp : h 54 c < 2 ^ 40) (H : K (1, u) h) : am_C true L xs P (d + 2) 75 [(2, 53), (0, (c : Int))] h K := by
  obtain ⟨k, k1, e1, e2, e3⟩ := r.nat
  have p0 := r.p0
  refine eX7_upper (bX7_upper_0 ⟨by omega, ?_⟩)
  rw [Int.toNat_natCast]
  have ep : h 54 c = (((h 54 c).toNat : Nat) : Int) := by omega
  have lem : am_C true L xs P (d + 1) 77 [(1, (((h 54 c).toNat : Nat) : Int))] h (fun r1 h1 => (am_lcmp r1.2 0 ≤ 0 → tX7_upper (h 0 0 + (0 : Nat)) L xs (am_C true L xs P (d + 1)) K 27 [(2, 53), (0, (c : Int)), (1, r1.2), (9, 0)] [] h1) ∧ (¬ (am_lcmp r1.2 0 ≤ 0) → (0 ≤ (c : Int) ∧ (c : Int) < 25) ∧ (0 ≤ h1 54 c ∧ 0 < r1.2) ∧ tX7_upper (h 0 0 + (0 : Nat)) L xs (am_C true L xs P (d + 1)) K 28 [(2, 53), (0, (c : Int)), (1, r1.2), (9, 0)] [(1, h1 54 c / r1.2)] h1)) := by
    refine kX7_commonDivisor (d := d) (by have : ((2 : Int) ^ 40) = 1099511627776 := by decide
                                          have : (2 : Nat) ^ 40 = 1099511627776 := by decide
                                          omega) ?_
    rw [e3]
    refine ⟨fun z => by rw [lcmp_le] at z; omega, fun _ => ⟨by omega, by omega, bX7_upper_28 ?_⟩⟩
    dsimp only
    rw [e1, Int.mul_ediv_cancel _ (by omega)]
    exact H
  rw [← ep] at lem
  exact lem
theorem kX7_lower {c : Nat} {u l : Int} (hc : c < 25) (r : Rel (h 54 c) u l) (hp : h 54 c < 2 ^ 40) (H : K (1, l) h) : am_C true L xs P (d + 2) 76 [(2, 53), (0, (c : Int))] h K := by
  obtain ⟨k, k1, e1, e2, e3⟩ := r.nat
  have p0 := r.p0
  refine eX7_lower (bX7_lower_0 ⟨by omega, ?_⟩)
  rw [Int.toNat_natCast]
  have ep : h 54 c = (((h 54 c).toNat : Nat) : Int) := by omega
  have lem : am_C true L xs P (d + 1) 77 [(1, (((h 54 c).toNat : Nat) : Int))] h (fun r1 h1 => (am_lcmp r1.2 0 ≤ 0 → tX7_lower (h 0 0 + (0 : Nat)) L xs (am_C true L xs P (d + 1)) K 24 [(2, 53), (0, (c : Int)), (1, r1.2), (9, 0)] [] h1) ∧ (¬ (am_lcmp r1.2 0 ≤ 0) → (0 ≤ (26771144400 : Int) ∧ 0 < r1.2) ∧ tX7_lower (h 0 0 + (0 : Nat)) L xs (am_C true L xs P (d + 1)) K 25 [(2, 53), (0, (c : Int)), (1, r1.2), (9, 0)] [(1, 26771144400 / r1.2)] h1)) := by
    refine kX7_commonDivisor (d := d) (by have : ((2 : Int) ^ 40) = 1099511627776 := by decide
                                          have : (2 : Nat) ^ 40 = 1099511627776 := by decide
                                          omega) ?_
    rw [e3]
    refine ⟨fun z => by rw [lcmp_le] at z; omega, fun _ => ⟨⟨by decide, by omega⟩, bX7_lower_25 ?_⟩⟩
    show K (1, WH / (k : Int)) h
    rw [e2, Int.mul_ediv_cancel _ (by omega)]
    exact H
  rw [← ep] at lem
  exact lem
end
