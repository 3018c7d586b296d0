/-! tally: the class's number of namings -/
theorem dnto {σ : Type} {I G : Nat → σ → Prop} (step : ∀ i s, I (i + 1) s → (∀ s', I i s' → G i s') → G (i + 1) s) (fin : ∀ s, I 0 s → G 0 s) : ∀ (i : Nat) (s : σ), I i s → G i s := by
  intro i
  induction i with
  | zero => exact fin
  | succ i ih => intro s h; exact step i s h (fun s' h' => ih s' h')
theorem bt_nat {n k : Nat} (hk : k < 32) : bt (n : Int) k = n.testBit k := by
  rw [bt_eq _ hk, Nat.testBit_eq_decide_div_mod_eq]
  have h6 : ((n / 2 ^ k % 2 : Nat) : Int) = (n : Int) / 2 ^ k % 2 := by simp
  rw [← h6]
  congr 1
  apply propext
  omega
theorem rm_all : ∀ S : Fin 1024, ∀ b : Fin 10, S.val.testBit b.val = true → am_and (S.val : Nat) (am_xor (1 * 2 ^ b.val) (-1)) = ((S.val - 2 ^ b.val : Nat) : Int) := by decide +kernel
theorem kX4_takersOf {L : Nat} {xs : Nat → Int} {P : Nat → List am_V → am_H → am_K → Prop} {d : Nat} {h : am_H} {K : am_K} {m : Nat} (hm : m < 14) (H : ∀ r : Int, (∀ y, bt r y = true ↔ y < 10 ∧ Ey h y m) → am_inI r → K (0, r) h) : am_C true L xs P (d + 2) 54 [(2, 44), (0, (m : Int))] h K := by
  refine eX4_takersOf (bX4_takersOf_0 ?_)
  refine upto (σ := Int) (N := 10) (I := fun i r => am_inI r ∧ ∀ y : Nat, bt r y = true ↔ y < i ∧ Ey h y m) (G := fun i r => tX4_takersOf (h 0 0 + (0 : Nat)) L xs (am_C true L xs P (d + 1)) K 4 [(2, 44), (0, (m : Int)), (0, r), (0, (i : Int))] [] h) ?_ ?_ 10 0 0 (by omega) ?_
  · intro i r hi ⟨e0, e1⟩ ih
    refine bX4_takersOf_4 ⟨fun z => by omega, fun _ => ⟨by omega, kBit (d := d) (by omega) (fun gb => ?_) (fun gb => ?_)⟩⟩
    · refine ⟨fun _ => bX4_takersOf_29 ⟨by omega, ih r ⟨e0, fun y => ?_⟩⟩, fun z => absurd rfl z⟩
      rw [e1]
      refine ⟨fun z => ⟨by omega, z.2⟩, fun z => ⟨?_, z.2⟩⟩
      have : ¬ y = i := fun e => by
        have := z.2
        rw [Int.toNat_natCast] at gb
        rw [e] at this; unfold Ey at this; rw [gb] at this; exact absurd this (by decide)
      omega
    · rw [Int.toNat_natCast] at gb
      refine ⟨fun z => absurd z (by decide), fun _ => ⟨⟨by omega, by omega, by omega, am_p2 (by omega) (by omega)⟩, bX4_takersOf_29 ⟨by omega, ih _ ⟨am_inI_or _ _, fun y => ?_⟩⟩⟩⟩
      simp only [Int.toNat_natCast]
      rw [bt_or, Bool.or_eq_true, e1, bt_p2' y (by omega), decide_eq_true_eq]
      constructor
      · rintro (z | z)
        · exact ⟨by omega, z.2⟩
        · subst z; exact ⟨by omega, gb⟩
      · intro z
        by_cases hbi : y = i
        · exact Or.inr hbi
        · exact Or.inl ⟨by omega, z.2⟩
  · intro r ⟨e0, e1⟩
    exact bX4_takersOf_4 ⟨fun _ => bX4_takersOf_35 (H r e1 e0), fun z => by omega⟩
  · exact ⟨by decide, fun y => by rw [bt_0]; exact ⟨fun z => absurd z (by decide), fun z => by omega⟩⟩
theorem kX4_waysWith {L : Nat} {xs : Nat → Int} {P : Nat → List am_V → am_H → am_K → Prop} {d : Nat} {h : am_H} {K : am_K} {t M : Int} {S : Nat} (hS : S < 1024) (ht : 0 ≤ t) (htS : ∀ b, bt t b = true → S.testBit b = true) (hM : 0 ≤ M ∧ M ≤ 900000000000000000) (hW : ∀ j, j ≤ S → 0 ≤ h 52 j ∧ h 52 j ≤ M) (H : 0 ≤ sm (fun b => sif (bt t b = true) (h 52 (S - 2 ^ b))) 10 → sm (fun b => sif (bt t b = true) (h 52 (S - 2 ^ b))) 10 ≤ 10 * M → K (1, sm (fun b => sif (bt t b = true) (h 52 (S - 2 ^ b))) 10) h) : am_C true L xs P (d + 2) 55 [(2, 44), (0, t), (0, (S : Int))] h K := by
  have tb : ∀ b, 0 ≤ sif (bt t b = true) (h 52 (S - 2 ^ b)) ∧ sif (bt t b = true) (h 52 (S - 2 ^ b)) ≤ M := by
    intro b
    have := hW (S - 2 ^ b) (Nat.sub_le _ _)
    by_cases hb : bt t b = true
    · rw [sif_pos hb]; exact this
    · rw [sif_neg hb]; omega
  have hb : ∀ i : Nat, 0 ≤ sm (fun b => sif (bt t b = true) (h 52 (S - 2 ^ b))) i ∧ sm (fun b => sif (bt t b = true) (h 52 (S - 2 ^ b))) i ≤ i * M := by
    intro i
    refine ⟨sm_nn (fun b _ => (tb b).1), ?_⟩
    have := sm_le (n := i) (fun b _ => (tb b).2)
    rw [sm_const] at this
    exact this
  refine eX4_waysWith (bX4_waysWith_0 ?_)
  refine upto (σ := Int) (N := 10) (I := fun i r => r = sm (fun b => sif (bt t b = true) (h 52 (S - 2 ^ b))) i) (G := fun i r => tX4_waysWith (h 0 0 + (0 : Nat)) L xs (am_C true L xs P (d + 1)) K 5 [(2, 44), (0, t), (0, (S : Int)), (1, r), (9, 0), (0, (i : Int))] [] h) ?_ ?_ 10 0 0 (by omega) rfl
  · intro i r hi e1 ih
    have hbi := hb i
    refine bX4_waysWith_5 ⟨by omega, ⟨fun gz => bX4_waysWith_50 ?_, fun gz => ⟨fun z => by omega, fun _ => kBit (d := d) (by omega) (fun gb => ?_) (fun gb => ?_)⟩⟩⟩
    · rw [Int.toNat_natCast] at gz
      have hlt : t < 2 ^ i := by
        have h1 := Int.lt_ediv_add_one_mul_self t (b := 2 ^ i) (by have := p2_pos i; omega)
        rw [gz] at h1; omega
      have e2 : sm (fun b => sif (bt t b = true) (h 52 (S - 2 ^ b))) 10 = r := by
        have : 10 = i + (10 - i) := by omega
        rw [this, sm_split, sm_sif0 (p := fun j => bt t (i + j) = true) (fun j _ z => by rw [bt_out ht hlt (by omega)] at z; exact absurd z (by decide)), Int.add_zero]
        exact e1.symm
      have h10 := hb 10
      have := H h10.1 (by omega)
      rw [e2] at this
      exact this
    · refine ⟨fun _ => bX4_waysWith_44 ⟨by omega, ih r ?_⟩, fun z => absurd rfl z⟩
      simp only [sm]
      rw [sif_neg (by rw [gb]; decide), Int.add_zero]; exact e1
    · have er := rm_all ⟨S, hS⟩ ⟨i, hi⟩ (htS i gb)
      dsimp only at er
      refine ⟨fun z => absurd z (by decide), fun _ => ?_⟩
      rw [Int.toNat_natCast, er, Int.toNat_natCast]
      have hsl := Nat.sub_le S (2 ^ i)
      have hw := hW (S - 2 ^ i) hsl
      have hiM : (i : Int) * M ≤ 9 * M := Int.mul_le_mul_of_nonneg_right (by omega) hM.1
      refine ⟨⟨by omega, by omega, by omega, inI_p2 (by omega)⟩, by omega, by rw [e1]; omega, bX4_waysWith_44 ⟨by omega, ih _ ?_⟩⟩
      simp only [sm]
      rw [sif_pos gb, e1]
  · intro r e1
    have h10 := hb 10
    have H2 := H h10.1 (by omega)
    rw [← e1] at H2
    refine bX4_waysWith_5 ⟨by omega, ⟨fun _ => bX4_waysWith_50 H2, fun _ => ⟨fun _ => bX4_waysWith_50 H2, fun z => by omega⟩⟩⟩
theorem card_ext {n k S : Nat} (hS : S < 2 ^ n) (hk : n ≤ k) : card k S = card n S := by
  induction k with
  | zero => have : n = 0 := by omega
            subst this; rfl
  | succ k ih =>
    by_cases h : n = k + 1
    · subst h; rfl
    · unfold card at ih ⊢
      rw [cnt_neg (p := fun i => S.testBit i = true), ih (by omega)]
      rw [Nat.testBit_lt_two_pow (Nat.lt_of_lt_of_le hS (Nat.pow_le_pow_right (by decide) (by omega)))]
      decide
theorem p11_le {j : Nat} (hj : j ≤ 14) : (0 : Int) < 11 ^ j ∧ (11 : Int) ^ j ≤ 379749833583241 := by
  have h : ∀ j : Fin 15, (0 : Int) < 11 ^ j.val ∧ (11 : Int) ^ j.val ≤ 379749833583241 := by decide
  exact h ⟨j, by omega⟩
theorem kX4_tally {L : Nat} {xs : Nat → Int} {P : Nat → List am_V → am_H → am_K → Prop} {d : Nat} {h : am_H} {K : am_K} {nb nm : Nat} (hnb : nb ≤ 10) (hnm : nm ≤ 14) (H : ∀ h', Fr [52] h h' → K (1, Rm (Ey h) nb nm (fun _ => True) (h 44 10)) h') : am_C true L xs P (d + 3) 53 [(2, 44), (0, (nb : Int)), (0, (nm : Int))] h K := by
  have hsz : 1 ≤ 2 ^ nb ∧ 2 ^ nb ≤ 1024 := by
    have h : ∀ j : Fin 11, 1 ≤ 2 ^ j.val ∧ 2 ^ j.val ≤ 1024 := by decide
    exact h ⟨nb, by omega⟩
  have hszI : ((1 : Int) * 2 ^ nb) = ((2 ^ nb : Nat) : Int) := by simp
  refine eX4_tally (bX4_tally_0 (kJ9_min_7cf53 (d := d + 1) ?_))
  rw [if_neg (by omega)]
  dsimp only
  rw [Int.toNat_natCast]
  refine ⟨⟨by omega, by omega, by omega, inI_p2 (by omega)⟩, ?_⟩
  rw [hszI]
  generalize hN : 2 ^ nb = N at hsz
  refine upto (σ := am_H) (N := N) (I := fun i g => Fr [52] h g ∧ ∀ S, S < i → g 52 S = 0) (G := fun i g => tX4_tally (h 0 0 + (0 : Nat)) L xs (am_C true L xs P (d + 2)) K 12 [(2, 44), (0, (nb : Int)), (0, (nm : Int)), (0, (N : Int)), (0, (i : Int)), (9, 0), (9, 0)] [] g) ?_ ?_ N 0 h (by omega) ⟨Fr.rf, fun S hS => by omega⟩
  · intro i g hi ⟨e1, e2⟩ ih
    refine bX4_tally_12 ⟨fun z => by omega, fun _ => ⟨by omega, by omega, ih _ ⟨e1.st (by decide), fun S hS => ?_⟩⟩⟩
    rw [Int.toNat_natCast, st_ap]
    split
    · rfl
    · exact e2 S (by omega)
  · intro g ⟨e1, e2⟩
    refine bX4_tally_12 ⟨fun _ => bX4_tally_32 ⟨by omega, ?_⟩, fun z => by omega⟩
    refine upto (σ := am_V × am_V × am_H) (N := nm) (I := fun j s => Fr [52] h s.2.2 ∧ TabM (Ey h) nb j (s.2.2 52) ∧ ∀ S, S < N → 0 ≤ s.2.2 52 S ∧ s.2.2 52 S ≤ 11 ^ j) (G := fun j s => tX4_tally (h 0 0 + (0 : Nat)) L xs (am_C true L xs P (d + 2)) K 42 [(2, 44), (0, (nb : Int)), (0, (nm : Int)), (0, (N : Int)), (0, (j : Int)), s.1, s.2.1] [] s.2.2) ?_ ?_ nm 0 ((9, 0), (9, 0), am_st g 52 0 1) (by omega) ⟨e1.st (by decide), ?_, ?_⟩
    · intro j ⟨v, w, g⟩ hj ⟨e1, e2, e3⟩ ih
      dsimp only at e1 e2 e3
      have hp := p11_le (j := j) (by omega)
      have eE : Ey g = Ey h := by unfold Ey; rw [e1 46 (by decide)]
      refine bX4_tally_42 ⟨fun z => by omega, fun _ => kX4_takersOf (d := d) (by omega) (fun r hr hrI => ?_)⟩
      rw [eE] at hr
      refine ⟨by omega, ?_⟩
      have step : ∀ g', Fr [52] h g' → (∀ S, S < N → g' 52 S = g 52 S + sm (fun b => sif (S.testBit b = true ∧ Ey h b j) (g 52 (S - 2 ^ b))) 10) → ∀ x6 : Int, tX4_tally (h 0 0 + (0 : Nat)) L xs (am_C true L xs P (d + 2)) K 98 [(2, 44), (0, (nb : Int)), (0, (nm : Int)), (0, (N : Int)), (0, (j : Int)), (0, r), (0, x6)] [] g' := by
        intro g' q1 q2 x6
        refine bX4_tally_98 ⟨by omega, ih (_, _, g') ⟨q1, TabM_step e2 (fun S hS => ?_), fun S hS => ?_⟩⟩
        · rw [hN] at hS
          dsimp only
          rw [q2 S hS]
          congr 1
          have : 10 = nb + (10 - nb) := by omega
          rw [this, sm_split, sm_sif0 (p := fun i => S.testBit (nb + i) = true ∧ Ey h (nb + i) j) (fun i _ z => by
            rw [Nat.testBit_lt_two_pow (Nat.lt_of_lt_of_le (hN ▸ hS) (Nat.pow_le_pow_right (by decide) (by omega)))] at z
            exact absurd z.1 (by decide)), Int.add_zero]
        · dsimp only
          rw [q2 S hS]
          have h1 := e3 S hS
          have h2 : ∀ b, b < 10 → 0 ≤ sif (S.testBit b = true ∧ Ey h b j) (g 52 (S - 2 ^ b)) ∧ sif (S.testBit b = true ∧ Ey h b j) (g 52 (S - 2 ^ b)) ≤ 11 ^ j := by
            intro b _
            have := e3 (S - 2 ^ b) (Nat.lt_of_le_of_lt (Nat.sub_le _ _) hS)
            by_cases hb : S.testBit b = true ∧ Ey h b j
            · rw [sif_pos hb]; exact this
            · rw [sif_neg hb]; omega
          have h3 := sm_nn (fun b hb => (h2 b hb).1)
          have h4 := sm_le (fun b hb => (h2 b hb).2)
          rw [sm_const] at h4
          rw [Int.pow_succ]
          omega
      by_cases hr0 : r = 0
      · have hnone : ∀ b, b < 10 → ¬ Ey h b j := fun b hb z => by
          have := (hr b).mpr ⟨hb, z⟩
          rw [hr0, bt_0] at this; exact absurd this (by decide)
        dsimp only
        refine bX4_tally_61 ⟨fun _ => step g e1 (fun S hS => ?_) _, fun z => absurd hr0 z⟩
        rw [sm_sif0 (fun b hb z => hnone b hb z.2), Int.add_zero]
      · rw [show (N : Int) - 1 = ((N - 1 : Nat) : Int) by omega]
        refine dnto (σ := am_H) (I := fun i g' => Fr [52] h g' ∧ i < N ∧ (∀ S, S ≤ i → g' 52 S = g 52 S) ∧ ∀ S, i < S → S < N → g' 52 S = g 52 S + sm (fun b => sif (S.testBit b = true ∧ Ey h b j) (g 52 (S - 2 ^ b))) 10) (G := fun i g' => tX4_tally (h 0 0 + (0 : Nat)) L xs (am_C true L xs P (d + 2)) K 61 [(2, 44), (0, (nb : Int)), (0, (nm : Int)), (0, (N : Int)), (0, (j : Int)), (0, r), (0, (i : Int))] [] g') ?_ ?_ (N - 1) g ⟨e1, by omega, fun _ _ => rfl, fun S h1 h2 => by omega⟩
        · intro i g' ⟨q1, q2, q3, q4⟩ ihi
          have t1 : ∀ b, bt (am_and ((i + 1 : Nat) : Int) r) b = true ↔ (i + 1).testBit b = true ∧ Ey h b j := by
            intro b
            rw [bt_and, Bool.and_eq_true, hr]
            by_cases hb : b < 32
            · rw [bt_nat hb]
              constructor
              · intro z; exact ⟨z.1, z.2.2⟩
              · intro z
                refine ⟨z.1, ?_, z.2⟩
                have := Nat.ge_two_pow_of_testBit z.1
                apply Classical.byContradiction
                intro hz
                have : 2 ^ 10 ≤ 2 ^ b := Nat.pow_le_pow_right (by decide) (by omega)
                omega
            · constructor
              · intro z; omega
              · intro z
                have := Nat.ge_two_pow_of_testBit z.1
                have : 2 ^ 10 ≤ 2 ^ b := Nat.pow_le_pow_right (by decide) (by omega)
                omega
          have t0 : 0 ≤ am_and ((i + 1 : Nat) : Int) r := by
            refine bt_bnd_nn (am_inI_and _ _) ?_
            rw [bt_and, bt_nat (by decide), Nat.testBit_lt_two_pow (by omega)]; rfl
          refine bX4_tally_61 ⟨fun z => absurd z hr0, fun _ => ⟨fun z => by omega, fun _ => ⟨by omega, kX4_waysWith (d := d) (M := 11 ^ j) (by omega) t0 (fun b hb => ((t1 b).mp hb).1) (by omega) (fun S hS => by rw [q3 S hS]; exact e3 S (by omega)) (fun w0 w1 => ?_)⟩⟩⟩
          have hw := e3 (i + 1) q2
          dsimp only
          rw [Int.toNat_natCast, q3 (i + 1) (by omega), show ((i + 1 : Nat) : Int) + (-1) = (i : Int) by omega]
          refine ⟨by omega, by omega, by omega, ihi _ ⟨q1.st (by decide), by omega, fun S hS => ?_, fun S h1 h2 => ?_⟩⟩
          · rw [st_nj (by omega)]; exact q3 S (by omega)
          · by_cases hSi : S = i + 1
            · rw [hSi, st_at]
              congr 1
              refine sm_congr (fun b _ => ?_)
              show sif _ _ = sif _ _
              exact sif_congr (t1 b) (fun _ => q3 _ (Nat.sub_le _ _))
            · rw [st_nj hSi]; exact q4 S (by omega) h2
        · intro g' ⟨q1, q2, q3, q4⟩
          refine bX4_tally_61 ⟨fun z => absurd z hr0, fun _ => ⟨fun _ => step g' q1 (fun S hS => ?_) _, fun z => by omega⟩⟩
          by_cases hS0 : S = 0
          · subst hS0
            rw [q3 0 (by omega), sm_sif0 (fun b _ z => by simp at z), Int.add_zero]
          · exact q4 S (by omega) hS
    · intro ⟨v, w, g⟩ ⟨e1, e2, e3⟩
      dsimp only at e1 e2 e3
      have hp := p11_le (j := nm) (by omega)
      refine bX4_tally_42 ⟨fun _ => bX4_tally_104 ?_, fun z => by omega⟩
      have e44 : g 44 = h 44 := e1 44 (by decide)
      have tb : ∀ S, S < N → 0 ≤ sif ((card 10 S : Int) = h 44 10) (g 52 S) ∧ sif ((card 10 S : Int) = h 44 10) (g 52 S) ≤ 11 ^ nm := by
        intro S hS
        have := e3 S hS
        by_cases hb : (card 10 S : Int) = h 44 10
        · rw [sif_pos hb]; exact this
        · rw [sif_neg hb]; omega
      have hb : ∀ i : Nat, i ≤ N → 0 ≤ sm (fun S => sif ((card 10 S : Int) = h 44 10) (g 52 S)) i ∧ sm (fun S => sif ((card 10 S : Int) = h 44 10) (g 52 S)) i ≤ 388863829589238784 := by
        intro i hi
        refine ⟨sm_nn (fun S hS => (tb S (by omega)).1), ?_⟩
        have h4 := sm_le (n := i) (fun S hS => (tb S (by omega)).2)
        rw [sm_const] at h4
        have h5 : (i : Int) * 11 ^ nm ≤ 1024 * 11 ^ nm := Int.mul_le_mul_of_nonneg_right (by omega) (by omega)
        omega
      refine upto (σ := Int) (N := N) (I := fun i r => r = sm (fun S => sif ((card 10 S : Int) = h 44 10) (g 52 S)) i) (G := fun i r => tX4_tally (h 0 0 + (0 : Nat)) L xs (am_C true L xs P (d + 2)) K 110 [(2, 44), (0, (nb : Int)), (0, (nm : Int)), (0, (N : Int)), (1, r), (9, 0), (0, (i : Int))] [] g) ?_ ?_ N 0 0 (by omega) rfl
      · intro i r hi er ih
        have h1 := hb i (by omega)
        have h2 := tb i hi
        refine bX4_tally_110 ⟨fun z => by omega, fun _ => kJ6_bitCount (d := d + 1) (by omega) ?_⟩
        dsimp only
        rw [e44]
        refine ⟨fun gz => bX4_tally_140 (bX4_tally_141 ⟨by omega, by omega, ih _ ?_⟩), fun gz => ⟨by omega, bX4_tally_141 ⟨?_, by omega, ih _ ?_⟩⟩⟩
        · simp only [sm]; rw [sif_neg gz, er]
        · rw [Int.toNat_natCast]
          have := e3 i hi
          omega
        · simp only [sm]; rw [sif_pos (Classical.not_not.mp gz), er, Int.toNat_natCast]
      · intro r er
        have H2 := H g e1
        rw [← e2, hN, sm_congr (G := fun S => sif ((card 10 S : Int) = h 44 10) (g 52 S)) (fun S hS => by
          refine sif_congr ?_ (fun _ => rfl)
          unfold Wt
          rw [card_ext (n := nb) (k := 10) (S := S) (by rw [hN]; exact hS) hnb]
          exact ⟨fun z => z.2, fun z => ⟨fun _ _ _ => trivial, z⟩⟩), ← er] at H2
        exact bX4_tally_110 ⟨fun _ => bX4_tally_150 H2, fun z => by omega⟩
    · refine TabM_0 ?_ (fun T hT hn => ?_)
      · show am_st g 52 0 1 52 0 = 1
        exact st_at
      · show am_st g 52 0 1 52 T = 0
        rw [st_nj hn]; exact e2 T (by omega)
    · intro S hS
      show 0 ≤ am_st g 52 0 1 52 S ∧ am_st g 52 0 1 52 S ≤ 11 ^ 0
      rw [st_ap]
      split
      · decide
      · rw [e2 S hS]; decide
