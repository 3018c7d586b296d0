/-! the model's simple methods -/
abbrev am_t0 (h : am_H) : am_H := am_st h 59 2 0
def am_tell (h : am_H) (s q t v : Int) : am_H := am_st (am_st (am_st (am_st (am_st h 63 (Int.toNat (h 59 11)) s) 64 (Int.toNat (h 59 11)) q) 65 (Int.toNat (h 59 11)) t) 66 (Int.toNat (h 59 11)) v) 59 11 (h 59 11 + 1)
theorem kX12_thrown {L : Nat} {xs : Nat → Int} {P : Nat → List am_V → am_H → am_K → Prop} {d : Nat} {h : am_H} {K : am_K} (H : K (0, h 59 2) h) : am_C true L xs P (d + 1) 145 [(2, 59)] h K := by
  refine eX12_thrown ?_
  refine bX12_thrown_0 ?_
  exact H
theorem kX12_wall {L : Nat} {xs : Nat → Int} {P : Nat → List am_V → am_H → am_K → Prop} {d : Nat} {h : am_H} {K : am_K} (H : K (0, h 59 6) (am_t0 h)) : am_C true L xs P (d + 1) 207 [(2, 59)] h K := by
  refine eX12_wall ?_
  refine bX12_wall_0 ?_
  exact H
theorem kX12_isCell {L : Nat} {xs : Nat → Int} {P : Nat → List am_V → am_H → am_K → Prop} {d : Nat} {h : am_H} {K : am_K} {c : Int} (hw : 2 ≤ h 59 3 ∧ h 59 3 ≤ 5) (ht : 2 ≤ h 59 4 ∧ h 59 4 ≤ 5) (hp : h 59 3 * h 59 4 ≤ 25 ∧ 0 ≤ h 59 3 * h 59 4) (H0 : ¬ (0 ≤ c ∧ c < h 59 3 * h 59 4) → K (0, 0) h) (H1 : 0 ≤ c ∧ c < h 59 3 * h 59 4 → K (0, 1) h) : am_C true L xs P (d + 1) 148 [(2, 59), (0, c)] h K := by
  refine eX12_isCell ?_
  refine bX12_isCell_0 ?_
  refine ⟨fun g1 => ?_, fun g1 => ?_⟩
  · refine bX12_isCell_21 ?_
    refine bX12_isCell_22 ?_
    refine ⟨(by first | omega | (refine ⟨by omega, by omega, by omega, am_p2 (by omega) (by omega)⟩) | (simp [am_st]; omega)), ?_⟩
    first | exact H0 (by omega) | exact H1 (by omega)
  · refine ⟨(by first | omega | (refine ⟨by omega, by omega, by omega, am_p2 (by omega) (by omega)⟩) | (simp [am_st]; omega)), ?_⟩
    refine ⟨fun g2 => ?_, fun g2 => ?_⟩
    · refine bX12_isCell_21 ?_
      refine bX12_isCell_22 ?_
      refine ⟨(by first | omega | (refine ⟨by omega, by omega, by omega, am_p2 (by omega) (by omega)⟩) | (simp [am_st]; omega)), ?_⟩
      first | exact H0 (by omega) | exact H1 (by omega)
    · refine bX12_isCell_22 ?_
      refine ⟨(by first | omega | (refine ⟨by omega, by omega, by omega, am_p2 (by omega) (by omega)⟩) | (simp [am_st]; omega)), ?_⟩
      first | exact H0 (by omega) | exact H1 (by omega)
theorem kX12_wrong {L : Nat} {xs : Nat → Int} {P : Nat → List am_V → am_H → am_K → Prop} {d : Nat} {h : am_H} {K : am_K} {w : Int} (H : K (0, 0) (am_st (am_st h 59 24 w) 59 25 (h 59 30))) : am_C true L xs P (d + 1) 149 [(2, 59), (0, w)] h K := by
  refine eX12_wrong ?_
  refine bX12_wrong_0 ?_
  refine ⟨(by first | omega | (refine ⟨by omega, by omega, by omega, am_p2 (by omega) (by omega)⟩) | (simp [am_st]; omega)), ?_⟩
  exact H
theorem kX12_breaks {L : Nat} {xs : Nat → Int} {P : Nat → List am_V → am_H → am_K → Prop} {d : Nat} {h : am_H} {K : am_K} {w a : Int} (H : K (0, -1) (am_st (am_st h 59 24 w) 59 25 a)) : am_C true L xs P (d + 1) 161 [(2, 59), (0, w), (0, a)] h K := by
  refine eX12_breaks ?_
  refine bX12_breaks_0 ?_
  exact H
theorem kX12_fails {L : Nat} {xs : Nat → Int} {P : Nat → List am_V → am_H → am_K → Prop} {d : Nat} {h : am_H} {K : am_K} {w : Int} (H : K (0, 0) (am_st h 59 2 w)) : am_C true L xs P (d + 1) 216 [(2, 59), (0, w)] h K := by
  refine eX12_fails ?_
  refine bX12_fails_0 ?_
  exact H
theorem kX12_fault {L : Nat} {xs : Nat → Int} {P : Nat → List am_V → am_H → am_K → Prop} {d : Nat} {h : am_H} {K : am_K} {w : Int} (H0 : w = 0 → K (0, h 59 24) (am_t0 h)) (H1 : w = 1 → K (0, h 59 25) (am_t0 h)) (H2 : ¬ w = 0 ∧ ¬ w = 1 → K (0, -1) (am_t0 h)) : am_C true L xs P (d + 1) 165 [(2, 59), (0, w)] h K := by
  refine eX12_fault ?_
  refine bX12_fault_0 ?_
  refine ⟨fun g1 => ?_, fun g1 => ?_⟩
  · refine bX12_fault_16 ?_
    refine ⟨fun g2 => ?_, fun g2 => ?_⟩
    · refine bX12_fault_28 ?_
      refine bX12_fault_29 ?_
      first | exact H0 (by omega) | exact H1 (by omega) | exact H2 (by omega) | (simp only [am_t0, am_st, reduceIte, Nat.reduceEqDiff] at *; first | exact H0 (by omega) | exact H1 (by omega) | exact H2 (by omega) | (exfalso; omega))
    · refine bX12_fault_29 ?_
      first | exact H0 (by omega) | exact H1 (by omega) | exact H2 (by omega) | (simp only [am_t0, am_st, reduceIte, Nat.reduceEqDiff] at *; first | exact H0 (by omega) | exact H1 (by omega) | exact H2 (by omega) | (exfalso; omega))
  · refine bX12_fault_29 ?_
    first | exact H0 (by omega) | exact H1 (by omega) | exact H2 (by omega) | (simp only [am_t0, am_st, reduceIte, Nat.reduceEqDiff] at *; first | exact H0 (by omega) | exact H1 (by omega) | exact H2 (by omega) | (exfalso; omega))
theorem kX12_line {L : Nat} {xs : Nat → Int} {P : Nat → List am_V → am_H → am_K → Prop} {d : Nat} {h : am_H} {K : am_K} {k : Int} (hl : h 59 40 ≤ 6) (H0 : 0 ≤ k ∧ k < h 59 40 → K (0, h 77 (Int.toNat k)) (am_t0 h)) (H1 : ¬ (0 ≤ k ∧ k < h 59 40) → K (0, -1) (am_t0 h)) : am_C true L xs P (d + 1) 166 [(2, 59), (0, k)] h K := by
  refine eX12_line ?_
  refine bX12_line_0 ?_
  refine ⟨fun g1 => ?_, fun g1 => ?_⟩
  · refine bX12_line_26 ?_
    refine bX12_line_27 ?_
    first | exact H0 (by omega) | exact H1 (by omega) | (simp only [am_t0, am_st, reduceIte, Nat.reduceEqDiff] at *; first | exact H0 (by omega) | exact H1 (by omega) | (exfalso; omega))
  · refine ⟨fun g2 => ?_, fun g2 => ?_⟩
    · refine bX12_line_26 ?_
      refine bX12_line_27 ?_
      first | exact H0 (by omega) | exact H1 (by omega) | (simp only [am_t0, am_st, reduceIte, Nat.reduceEqDiff] at *; first | exact H0 (by omega) | exact H1 (by omega) | (exfalso; omega))
    · refine ⟨(by first | omega | (simp only [am_tell, am_t0, am_st, reduceIte, Nat.reduceEqDiff] at *; omega)), ?_⟩
      refine bX12_line_27 ?_
      first | exact H0 (by omega) | exact H1 (by omega) | (simp only [am_t0, am_st, reduceIte, Nat.reduceEqDiff] at *; first | exact H0 (by omega) | exact H1 (by omega) | (exfalso; omega))
theorem kX12_field {L : Nat} {xs : Nat → Int} {P : Nat → List am_V → am_H → am_K → Prop} {d : Nat} {h : am_H} {K : am_K} {n : Int} (hn : 0 ≤ h 59 19 ∧ h 59 19 ≤ 8) (H0 : (1 ≤ n ∧ n ≤ 999) ∧ ¬ h 59 19 = 8 → K (0, h 59 19 + 1 - 1) (am_st (am_st (am_t0 h) 69 (Int.toNat (h 59 19)) n) 59 19 (h 59 19 + 1))) (H1 : ¬ ((1 ≤ n ∧ n ≤ 999) ∧ ¬ h 59 19 = 8) → K (0, -1) (am_t0 h)) : am_C true L xs P (d + 2) 208 [(2, 59), (0, n)] h K := by
  refine eX12_field ?_
  refine bX12_field_0 ?_
  refine ⟨fun g1 => ?_, fun g1 => ?_⟩
  · refine bX12_field_25 ?_
    first | exact H0 (by omega) | exact H1 (by omega) | (simp only [am_t0, am_st, reduceIte, Nat.reduceEqDiff] at *; first | exact H0 (by omega) | exact H1 (by omega) | (exfalso; omega))
  · refine kX12_isIn (fun g2 => ?_) (fun g2 => ?_)
    · try dsimp only
      refine ⟨fun z => absurd z (by decide), fun _ => ?_⟩
      refine bX12_field_25 ?_
      first | exact H0 (by omega) | exact H1 (by omega) | (simp only [am_t0, am_st, reduceIte, Nat.reduceEqDiff] at *; first | exact H0 (by omega) | exact H1 (by omega) | (exfalso; omega))
    · try dsimp only
      refine ⟨fun _ => ?_, fun z => absurd (by decide) z⟩
      refine bX12_field_27 ?_
      refine ⟨(by first | omega | (simp only [am_tell, am_t0, am_st, reduceIte, Nat.reduceEqDiff] at *; omega)), ?_⟩
      refine ⟨(by first | omega | (simp only [am_tell, am_t0, am_st, reduceIte, Nat.reduceEqDiff] at *; omega)), ?_⟩
      refine ⟨(by first | omega | (simp only [am_tell, am_t0, am_st, reduceIte, Nat.reduceEqDiff] at *; omega)), ?_⟩
      first | exact H0 (by omega) | exact H1 (by omega) | (simp only [am_t0, am_st, reduceIte, Nat.reduceEqDiff] at *; first | exact H0 (by omega) | exact H1 (by omega) | (exfalso; omega))
theorem kX12_kin {L : Nat} {xs : Nat → Int} {P : Nat → List am_V → am_H → am_K → Prop} {d : Nat} {h : am_H} {K : am_K} {f s n : Int} (hn : h 59 19 ≤ 8) (H0 : (0 ≤ f ∧ f < h 59 19) ∧ (0 ≤ s ∧ s ≤ 20) ∧ (0 ≤ n ∧ n ≤ 99) → K (0, 1) (am_st (am_t0 h) 70 (Int.toNat (21 * f + s)) n)) (H1 : ¬ ((0 ≤ f ∧ f < h 59 19) ∧ (0 ≤ s ∧ s ≤ 20) ∧ (0 ≤ n ∧ n ≤ 99)) → K (0, 0) (am_t0 h)) : am_C true L xs P (d + 2) 209 [(2, 59), (0, f), (0, s), (0, n)] h K := by
  refine eX12_kin ?_
  refine bX12_kin_0 ?_
  refine ⟨fun g1 => ?_, fun g1 => ?_⟩
  · refine bX12_kin_37 ?_
    refine ⟨(by first | omega | (simp only [am_tell, am_t0, am_st, reduceIte, Nat.reduceEqDiff] at *; omega)), ?_⟩
    first | exact H0 (by omega) | exact H1 (by omega) | (simp only [am_t0, am_st, reduceIte, Nat.reduceEqDiff] at *; first | exact H0 (by omega) | exact H1 (by omega) | (exfalso; omega))
  · refine ⟨fun g2 => ?_, fun g2 => ?_⟩
    · refine bX12_kin_37 ?_
      refine ⟨(by first | omega | (simp only [am_tell, am_t0, am_st, reduceIte, Nat.reduceEqDiff] at *; omega)), ?_⟩
      first | exact H0 (by omega) | exact H1 (by omega) | (simp only [am_t0, am_st, reduceIte, Nat.reduceEqDiff] at *; first | exact H0 (by omega) | exact H1 (by omega) | (exfalso; omega))
    · refine kX12_isIn (fun g3 => ?_) (fun g3 => ?_)
      · try dsimp only
        refine ⟨fun _ => ?_, fun z => absurd (by decide) z⟩
        refine bX12_kin_37 ?_
        refine ⟨(by first | omega | (simp only [am_tell, am_t0, am_st, reduceIte, Nat.reduceEqDiff] at *; omega)), ?_⟩
        first | exact H0 (by omega) | exact H1 (by omega) | (simp only [am_t0, am_st, reduceIte, Nat.reduceEqDiff] at *; first | exact H0 (by omega) | exact H1 (by omega) | (exfalso; omega))
      · try dsimp only
        refine ⟨fun z => absurd z (by decide), fun _ => ?_⟩
        refine kX12_isIn (fun g4 => ?_) (fun g4 => ?_)
        · try dsimp only
          refine ⟨fun z => absurd z (by decide), fun _ => ?_⟩
          refine bX12_kin_37 ?_
          refine ⟨(by first | omega | (simp only [am_tell, am_t0, am_st, reduceIte, Nat.reduceEqDiff] at *; omega)), ?_⟩
          first | exact H0 (by omega) | exact H1 (by omega) | (simp only [am_t0, am_st, reduceIte, Nat.reduceEqDiff] at *; first | exact H0 (by omega) | exact H1 (by omega) | (exfalso; omega))
        · try dsimp only
          refine ⟨fun _ => ?_, fun z => absurd (by decide) z⟩
          refine bX12_kin_39 ?_
          refine ⟨(by first | omega | (simp only [am_tell, am_t0, am_st, reduceIte, Nat.reduceEqDiff] at *; omega)), ?_⟩
          refine ⟨(by first | omega | (simp only [am_tell, am_t0, am_st, reduceIte, Nat.reduceEqDiff] at *; omega)), ?_⟩
          refine ⟨(by first | omega | (simp only [am_tell, am_t0, am_st, reduceIte, Nat.reduceEqDiff] at *; omega)), ?_⟩
          refine ⟨(by first | omega | (simp only [am_tell, am_t0, am_st, reduceIte, Nat.reduceEqDiff] at *; omega)), ?_⟩
          first | exact H0 (by omega) | exact H1 (by omega) | (simp only [am_t0, am_st, reduceIte, Nat.reduceEqDiff] at *; first | exact H0 (by omega) | exact H1 (by omega) | (exfalso; omega))
theorem kX12_capacity {L : Nat} {xs : Nat → Int} {P : Nat → List am_V → am_H → am_K → Prop} {d : Nat} {h : am_H} {K : am_K} {n : Int} (H0 : 1 ≤ n ∧ n ≤ 999 → K (0, 1) (am_st (am_t0 h) 59 22 n)) (H1 : ¬ (1 ≤ n ∧ n ≤ 999) → K (0, 0) (am_t0 h)) : am_C true L xs P (d + 2) 210 [(2, 59), (0, n)] h K := by
  refine eX12_capacity ?_
  refine bX12_capacity_0 ?_
  refine kX12_isIn (fun g1 => ?_) (fun g1 => ?_)
  · try dsimp only
    refine ⟨fun z => absurd z (by decide), fun _ => ?_⟩
    refine ⟨(by first | omega | (simp only [am_tell, am_t0, am_st, reduceIte, Nat.reduceEqDiff] at *; omega)), ?_⟩
    first | exact H0 (by omega) | exact H1 (by omega) | (simp only [am_t0, am_st, reduceIte, Nat.reduceEqDiff] at *; first | exact H0 (by omega) | exact H1 (by omega) | (exfalso; omega))
  · try dsimp only
    refine ⟨fun _ => ?_, fun z => absurd (by decide) z⟩
    refine bX12_capacity_18 ?_
    refine ⟨(by first | omega | (simp only [am_tell, am_t0, am_st, reduceIte, Nat.reduceEqDiff] at *; omega)), ?_⟩
    first | exact H0 (by omega) | exact H1 (by omega) | (simp only [am_t0, am_st, reduceIte, Nat.reduceEqDiff] at *; first | exact H0 (by omega) | exact H1 (by omega) | (exfalso; omega))
theorem kX12_tell {L : Nat} {xs : Nat → Int} {P : Nat → List am_V → am_H → am_K → Prop} {d : Nat} {h : am_H} {K : am_K} {s q t v : Int} (hn : 0 ≤ h 59 11 ∧ h 59 11 < 90) (H : K (0, h 59 11 + 1 - 1) (am_tell h s q t v)) : am_C true L xs P (d + 1) 170 [(2, 59), (0, s), (0, q), (0, t), (0, v)] h K := by
  refine eX12_tell ?_
  refine bX12_tell_0 ?_
  refine ⟨(by first | omega | (simp only [am_tell, am_t0, am_st, reduceIte, Nat.reduceEqDiff] at *; omega)), ?_⟩
  refine ⟨(by first | omega | (simp only [am_tell, am_t0, am_st, reduceIte, Nat.reduceEqDiff] at *; omega)), ?_⟩
  refine ⟨(by first | omega | (simp only [am_tell, am_t0, am_st, reduceIte, Nat.reduceEqDiff] at *; omega)), ?_⟩
  refine ⟨(by first | omega | (simp only [am_tell, am_t0, am_st, reduceIte, Nat.reduceEqDiff] at *; omega)), ?_⟩
  refine ⟨(by first | omega | (simp only [am_tell, am_t0, am_st, reduceIte, Nat.reduceEqDiff] at *; omega)), ?_⟩
  refine ⟨(by first | omega | (simp only [am_tell, am_t0, am_st, reduceIte, Nat.reduceEqDiff] at *; omega)), ?_⟩
  exact H
theorem kX12_dig {L : Nat} {xs : Nat → Int} {P : Nat → List am_V → am_H → am_K → Prop} {d : Nat} {h : am_H} {K : am_K} {c : Int} (hw : 2 ≤ h 59 3 ∧ h 59 3 ≤ 5) (ht : 2 ≤ h 59 4 ∧ h 59 4 ≤ 5) (hp : h 59 3 * h 59 4 ≤ 25 ∧ 0 ≤ h 59 3 * h 59 4) (hn : 0 ≤ h 59 11 ∧ h 59 11 ≤ 90) (H0 : (0 ≤ c ∧ c < h 59 3 * h 59 4) ∧ ¬ h 59 11 = 90 → K (0, h 59 11 + 1 - 1) (am_tell (am_t0 h) 2 c 0 0)) (H1 : ¬ ((0 ≤ c ∧ c < h 59 3 * h 59 4) ∧ ¬ h 59 11 = 90) → K (0, -1) (am_t0 h)) : am_C true L xs P (d + 2) 173 [(2, 59), (0, c)] h K := by
  refine eX12_dig ?_
  refine bX12_dig_0 ?_
  refine ⟨fun g1 => ?_, fun g1 => ?_⟩
  · refine bX12_dig_22 ?_
    refine bX12_dig_34 ?_
    first | exact H0 (by omega) | exact H1 (by omega) | (simp only [am_t0, am_st, reduceIte, Nat.reduceEqDiff] at *; first | exact H0 (by omega) | exact H1 (by omega) | (exfalso; omega))
  · refine kX12_isCell (by first | omega | (simp only [am_t0, am_st, reduceIte, Nat.reduceEqDiff] at *; omega)) (by first | omega | (simp only [am_t0, am_st, reduceIte, Nat.reduceEqDiff] at *; omega)) (by first | omega | (simp only [am_t0, am_st, reduceIte, Nat.reduceEqDiff] at *; omega)) (fun g2 => ?_) (fun g2 => ?_)
    · try dsimp only
      refine ⟨fun z => absurd z (by decide), fun _ => ?_⟩
      refine bX12_dig_22 ?_
      refine bX12_dig_34 ?_
      first | exact H0 (by omega) | exact H1 (by omega) | (simp only [am_t0, am_st, reduceIte, Nat.reduceEqDiff] at *; first | exact H0 (by omega) | exact H1 (by omega) | (exfalso; omega))
    · try dsimp only
      refine ⟨fun _ => ?_, fun z => absurd (by decide) z⟩
      refine bX12_dig_26 ?_
      refine kX12_tell (by first | omega | (simp only [am_t0, am_st, reduceIte, Nat.reduceEqDiff] at *; omega)) ?_
      try dsimp only
      refine bX12_dig_34 ?_
      first | exact H0 (by omega) | exact H1 (by omega) | (simp only [am_t0, am_st, reduceIte, Nat.reduceEqDiff] at *; first | exact H0 (by omega) | exact H1 (by omega) | (exfalso; omega))
theorem kX12_strike {L : Nat} {xs : Nat → Int} {P : Nat → List am_V → am_H → am_K → Prop} {d : Nat} {h : am_H} {K : am_K} {n : Int} (hn : 0 ≤ h 59 11 ∧ h 59 11 ≤ 90) (H0 : (0 ≤ n ∧ n < h 59 11) ∧ ¬ h 59 11 = 90 → K (0, h 59 11 + 1 - 1) (am_tell (am_t0 h) 3 n 0 0)) (H1 : ¬ ((0 ≤ n ∧ n < h 59 11) ∧ ¬ h 59 11 = 90) → K (0, -1) (am_t0 h)) : am_C true L xs P (d + 2) 174 [(2, 59), (0, n)] h K := by
  refine eX12_strike ?_
  refine bX12_strike_0 ?_
  refine ⟨fun g1 => ?_, fun g1 => ?_⟩
  · refine bX12_strike_26 ?_
    refine bX12_strike_38 ?_
    first | exact H0 (by omega) | exact H1 (by omega) | (simp only [am_t0, am_st, reduceIte, Nat.reduceEqDiff] at *; first | exact H0 (by omega) | exact H1 (by omega) | (exfalso; omega))
  · refine ⟨fun g2 => ?_, fun g2 => ?_⟩
    · refine bX12_strike_26 ?_
      refine bX12_strike_38 ?_
      first | exact H0 (by omega) | exact H1 (by omega) | (simp only [am_t0, am_st, reduceIte, Nat.reduceEqDiff] at *; first | exact H0 (by omega) | exact H1 (by omega) | (exfalso; omega))
    · refine ⟨fun g3 => ?_, fun g3 => ?_⟩
      · refine bX12_strike_30 ?_
        refine kX12_tell (by first | omega | (simp only [am_t0, am_st, reduceIte, Nat.reduceEqDiff] at *; omega)) ?_
        try dsimp only
        refine bX12_strike_38 ?_
        first | exact H0 (by omega) | exact H1 (by omega) | (simp only [am_t0, am_st, reduceIte, Nat.reduceEqDiff] at *; first | exact H0 (by omega) | exact H1 (by omega) | (exfalso; omega))
      · refine bX12_strike_26 ?_
        refine bX12_strike_38 ?_
        first | exact H0 (by omega) | exact H1 (by omega) | (simp only [am_t0, am_st, reduceIte, Nat.reduceEqDiff] at *; first | exact H0 (by omega) | exact H1 (by omega) | (exfalso; omega))
theorem kX12_stand {L : Nat} {xs : Nat → Int} {P : Nat → List am_V → am_H → am_K → Prop} {d : Nat} {h : am_H} {K : am_K} {u c f t : Int} (hw : 2 ≤ h 59 3 ∧ h 59 3 ≤ 5) (ht : 2 ≤ h 59 4 ∧ h 59 4 ≤ 5) (hp : h 59 3 * h 59 4 ≤ 25 ∧ 0 ≤ h 59 3 * h 59 4) (hn : 0 ≤ h 59 7 ∧ h 59 7 ≤ 20) (H0 : (0 ≤ u ∧ u ≤ 5) ∧ (0 ≤ c ∧ c < h 59 3 * h 59 4) ∧ (0 ≤ f ∧ f ≤ 999) ∧ (0 ≤ t ∧ t ≤ 999) ∧ f ≤ t ∧ ¬ h 59 7 = 20 → K (0, h 59 7 + 1 - 1) (am_st (am_st (am_st (am_st (am_st (am_t0 h) 61 (Int.toNat (4 * h 59 7)) u) 61 (Int.toNat (4 * h 59 7 + 1)) c) 61 (Int.toNat (4 * h 59 7 + 2)) f) 61 (Int.toNat (4 * h 59 7 + 3)) t) 59 7 (h 59 7 + 1))) (H1 : ¬ ((0 ≤ u ∧ u ≤ 5) ∧ (0 ≤ c ∧ c < h 59 3 * h 59 4) ∧ (0 ≤ f ∧ f ≤ 999) ∧ (0 ≤ t ∧ t ≤ 999) ∧ f ≤ t ∧ ¬ h 59 7 = 20) → K (0, -1) (am_t0 h)) : am_C true L xs P (d + 2) 168 [(2, 59), (0, u), (0, c), (0, f), (0, t)] h K := by
  refine eX12_stand ?_
  refine bX12_stand_0 ?_
  refine ⟨fun g1 => ?_, fun g1 => ?_⟩
  · refine bX12_stand_54 ?_
    first | exact H0 (by omega) | exact H1 (by omega) | (simp only [am_t0, am_st, reduceIte, Nat.reduceEqDiff] at *; first | exact H0 (by omega) | exact H1 (by omega) | (exfalso; omega))
  · refine kX12_isIn (fun g2 => ?_) (fun g2 => ?_)
    · try dsimp only
      refine ⟨fun _ => ?_, fun z => absurd (by decide) z⟩
      refine bX12_stand_54 ?_
      first | exact H0 (by omega) | exact H1 (by omega) | (simp only [am_t0, am_st, reduceIte, Nat.reduceEqDiff] at *; first | exact H0 (by omega) | exact H1 (by omega) | (exfalso; omega))
    · try dsimp only
      refine ⟨fun z => absurd z (by decide), fun _ => ?_⟩
      refine kX12_isCell (by first | omega | (simp only [am_t0, am_st, reduceIte, Nat.reduceEqDiff] at *; omega)) (by first | omega | (simp only [am_t0, am_st, reduceIte, Nat.reduceEqDiff] at *; omega)) (by first | omega | (simp only [am_t0, am_st, reduceIte, Nat.reduceEqDiff] at *; omega)) (fun g3 => ?_) (fun g3 => ?_)
      · try dsimp only
        refine ⟨fun _ => ?_, fun z => absurd (by decide) z⟩
        refine bX12_stand_54 ?_
        first | exact H0 (by omega) | exact H1 (by omega) | (simp only [am_t0, am_st, reduceIte, Nat.reduceEqDiff] at *; first | exact H0 (by omega) | exact H1 (by omega) | (exfalso; omega))
      · try dsimp only
        refine ⟨fun z => absurd z (by decide), fun _ => ?_⟩
        refine kX12_isIn (fun g4 => ?_) (fun g4 => ?_)
        · try dsimp only
          refine ⟨fun _ => ?_, fun z => absurd (by decide) z⟩
          refine bX12_stand_54 ?_
          first | exact H0 (by omega) | exact H1 (by omega) | (simp only [am_t0, am_st, reduceIte, Nat.reduceEqDiff] at *; first | exact H0 (by omega) | exact H1 (by omega) | (exfalso; omega))
        · try dsimp only
          refine ⟨fun z => absurd z (by decide), fun _ => ?_⟩
          refine kX12_isIn (fun g5 => ?_) (fun g5 => ?_)
          · try dsimp only
            refine ⟨fun z => absurd z (by decide), fun _ => ?_⟩
            refine bX12_stand_54 ?_
            first | exact H0 (by omega) | exact H1 (by omega) | (simp only [am_t0, am_st, reduceIte, Nat.reduceEqDiff] at *; first | exact H0 (by omega) | exact H1 (by omega) | (exfalso; omega))
          · try dsimp only
            refine ⟨fun _ => ?_, fun z => absurd (by decide) z⟩
            refine bX12_stand_56 ?_
            refine ⟨(by first | omega | (simp only [am_tell, am_t0, am_st, reduceIte, Nat.reduceEqDiff] at *; omega)), ?_⟩
            refine ⟨(by first | omega | (simp only [am_tell, am_t0, am_st, reduceIte, Nat.reduceEqDiff] at *; omega)), ?_⟩
            refine ⟨(by first | omega | (simp only [am_tell, am_t0, am_st, reduceIte, Nat.reduceEqDiff] at *; omega)), ?_⟩
            refine ⟨(by first | omega | (simp only [am_tell, am_t0, am_st, reduceIte, Nat.reduceEqDiff] at *; omega)), ?_⟩
            refine ⟨(by first | omega | (simp only [am_tell, am_t0, am_st, reduceIte, Nat.reduceEqDiff] at *; omega)), ?_⟩
            refine ⟨(by first | omega | (simp only [am_tell, am_t0, am_st, reduceIte, Nat.reduceEqDiff] at *; omega)), ?_⟩
            refine ⟨(by first | omega | (simp only [am_tell, am_t0, am_st, reduceIte, Nat.reduceEqDiff] at *; omega)), ?_⟩
            refine ⟨(by first | omega | (simp only [am_tell, am_t0, am_st, reduceIte, Nat.reduceEqDiff] at *; omega)), ?_⟩
            refine ⟨(by first | omega | (simp only [am_tell, am_t0, am_st, reduceIte, Nat.reduceEqDiff] at *; omega)), ?_⟩
            refine ⟨(by first | omega | (simp only [am_tell, am_t0, am_st, reduceIte, Nat.reduceEqDiff] at *; omega)), ?_⟩
            refine ⟨(by first | omega | (simp only [am_tell, am_t0, am_st, reduceIte, Nat.reduceEqDiff] at *; omega)), ?_⟩
            refine ⟨(by first | omega | (simp only [am_tell, am_t0, am_st, reduceIte, Nat.reduceEqDiff] at *; omega)), ?_⟩
            refine ⟨(by first | omega | (simp only [am_tell, am_t0, am_st, reduceIte, Nat.reduceEqDiff] at *; omega)), ?_⟩
            first | exact H0 (by omega) | exact H1 (by omega) | (simp only [am_t0, am_st, reduceIte, Nat.reduceEqDiff] at *; first | exact H0 (by omega) | exact H1 (by omega) | (exfalso; omega))
theorem kX12_man {L : Nat} {xs : Nat → Int} {P : Nat → List am_V → am_H → am_K → Prop} {d : Nat} {h : am_H} {K : am_K} {u n y b t : Int} (hn : 0 ≤ h 59 9 ∧ h 59 9 ≤ 14) (H0 : (0 ≤ u ∧ u ≤ 5) ∧ (0 ≤ n ∧ n ≤ 9999) ∧ (0 ≤ y ∧ y ≤ 999) ∧ (0 ≤ b ∧ b ≤ 9) ∧ (0 ≤ t ∧ t ≤ 255) ∧ ¬ h 59 9 = 14 → K (0, h 59 9 + 1 - 1) (am_st (am_st (am_st (am_st (am_st (am_st (am_t0 h) 62 (Int.toNat (5 * h 59 9)) u) 62 (Int.toNat (5 * h 59 9 + 1)) n) 62 (Int.toNat (5 * h 59 9 + 2)) y) 62 (Int.toNat (5 * h 59 9 + 3)) b) 62 (Int.toNat (5 * h 59 9 + 4)) t) 59 9 (h 59 9 + 1))) (H1 : ¬ ((0 ≤ u ∧ u ≤ 5) ∧ (0 ≤ n ∧ n ≤ 9999) ∧ (0 ≤ y ∧ y ≤ 999) ∧ (0 ≤ b ∧ b ≤ 9) ∧ (0 ≤ t ∧ t ≤ 255) ∧ ¬ h 59 9 = 14) → K (0, -1) (am_t0 h)) : am_C true L xs P (d + 2) 169 [(2, 59), (0, u), (0, n), (0, y), (0, b), (0, t)] h K := by
  refine eX12_man ?_
  refine bX12_man_0 ?_
  refine ⟨fun g1 => ?_, fun g1 => ?_⟩
  · refine bX12_man_68 ?_
    first | exact H0 (by omega) | exact H1 (by omega) | (simp only [am_t0, am_st, reduceIte, Nat.reduceEqDiff] at *; first | exact H0 (by omega) | exact H1 (by omega) | (exfalso; omega))
  · refine kX12_isIn (fun g2 => ?_) (fun g2 => ?_)
    · try dsimp only
      refine ⟨fun _ => ?_, fun z => absurd (by decide) z⟩
      refine bX12_man_68 ?_
      first | exact H0 (by omega) | exact H1 (by omega) | (simp only [am_t0, am_st, reduceIte, Nat.reduceEqDiff] at *; first | exact H0 (by omega) | exact H1 (by omega) | (exfalso; omega))
    · try dsimp only
      refine ⟨fun z => absurd z (by decide), fun _ => ?_⟩
      refine kX12_isIn (fun g3 => ?_) (fun g3 => ?_)
      · try dsimp only
        refine ⟨fun _ => ?_, fun z => absurd (by decide) z⟩
        refine bX12_man_68 ?_
        first | exact H0 (by omega) | exact H1 (by omega) | (simp only [am_t0, am_st, reduceIte, Nat.reduceEqDiff] at *; first | exact H0 (by omega) | exact H1 (by omega) | (exfalso; omega))
      · try dsimp only
        refine ⟨fun z => absurd z (by decide), fun _ => ?_⟩
        refine kX12_isIn (fun g4 => ?_) (fun g4 => ?_)
        · try dsimp only
          refine ⟨fun _ => ?_, fun z => absurd (by decide) z⟩
          refine bX12_man_68 ?_
          first | exact H0 (by omega) | exact H1 (by omega) | (simp only [am_t0, am_st, reduceIte, Nat.reduceEqDiff] at *; first | exact H0 (by omega) | exact H1 (by omega) | (exfalso; omega))
        · try dsimp only
          refine ⟨fun z => absurd z (by decide), fun _ => ?_⟩
          refine kX12_isIn (fun g5 => ?_) (fun g5 => ?_)
          · try dsimp only
            refine ⟨fun _ => ?_, fun z => absurd (by decide) z⟩
            refine bX12_man_68 ?_
            first | exact H0 (by omega) | exact H1 (by omega) | (simp only [am_t0, am_st, reduceIte, Nat.reduceEqDiff] at *; first | exact H0 (by omega) | exact H1 (by omega) | (exfalso; omega))
          · try dsimp only
            refine ⟨fun z => absurd z (by decide), fun _ => ?_⟩
            refine kX12_isIn (fun g6 => ?_) (fun g6 => ?_)
            · try dsimp only
              refine ⟨fun z => absurd z (by decide), fun _ => ?_⟩
              refine bX12_man_68 ?_
              first | exact H0 (by omega) | exact H1 (by omega) | (simp only [am_t0, am_st, reduceIte, Nat.reduceEqDiff] at *; first | exact H0 (by omega) | exact H1 (by omega) | (exfalso; omega))
            · try dsimp only
              refine ⟨fun _ => ?_, fun z => absurd (by decide) z⟩
              refine bX12_man_70 ?_
              refine ⟨(by first | omega | (simp only [am_tell, am_t0, am_st, reduceIte, Nat.reduceEqDiff] at *; omega)), ?_⟩
              refine ⟨(by first | omega | (simp only [am_tell, am_t0, am_st, reduceIte, Nat.reduceEqDiff] at *; omega)), ?_⟩
              refine ⟨(by first | omega | (simp only [am_tell, am_t0, am_st, reduceIte, Nat.reduceEqDiff] at *; omega)), ?_⟩
              refine ⟨(by first | omega | (simp only [am_tell, am_t0, am_st, reduceIte, Nat.reduceEqDiff] at *; omega)), ?_⟩
              refine ⟨(by first | omega | (simp only [am_tell, am_t0, am_st, reduceIte, Nat.reduceEqDiff] at *; omega)), ?_⟩
              refine ⟨(by first | omega | (simp only [am_tell, am_t0, am_st, reduceIte, Nat.reduceEqDiff] at *; omega)), ?_⟩
              refine ⟨(by first | omega | (simp only [am_tell, am_t0, am_st, reduceIte, Nat.reduceEqDiff] at *; omega)), ?_⟩
              refine ⟨(by first | omega | (simp only [am_tell, am_t0, am_st, reduceIte, Nat.reduceEqDiff] at *; omega)), ?_⟩
              refine ⟨(by first | omega | (simp only [am_tell, am_t0, am_st, reduceIte, Nat.reduceEqDiff] at *; omega)), ?_⟩
              refine ⟨(by first | omega | (simp only [am_tell, am_t0, am_st, reduceIte, Nat.reduceEqDiff] at *; omega)), ?_⟩
              refine ⟨(by first | omega | (simp only [am_tell, am_t0, am_st, reduceIte, Nat.reduceEqDiff] at *; omega)), ?_⟩
              refine ⟨(by first | omega | (simp only [am_tell, am_t0, am_st, reduceIte, Nat.reduceEqDiff] at *; omega)), ?_⟩
              refine ⟨(by first | omega | (simp only [am_tell, am_t0, am_st, reduceIte, Nat.reduceEqDiff] at *; omega)), ?_⟩
              refine ⟨(by first | omega | (simp only [am_tell, am_t0, am_st, reduceIte, Nat.reduceEqDiff] at *; omega)), ?_⟩
              refine ⟨(by first | omega | (simp only [am_tell, am_t0, am_st, reduceIte, Nat.reduceEqDiff] at *; omega)), ?_⟩
              refine ⟨(by first | omega | (simp only [am_tell, am_t0, am_st, reduceIte, Nat.reduceEqDiff] at *; omega)), ?_⟩
              first | exact H0 (by omega) | exact H1 (by omega) | (simp only [am_t0, am_st, reduceIte, Nat.reduceEqDiff] at *; first | exact H0 (by omega) | exact H1 (by omega) | (exfalso; omega))
theorem kX12_land {L : Nat} {xs : Nat → Int} {P : Nat → List am_V → am_H → am_K → Prop} {d : Nat} {h : am_H} {K : am_K} {w t : Int} (H0 : (2 ≤ w ∧ w ≤ 5) ∧ (2 ≤ t ∧ t ≤ 5) → K (0, 1) (am_st (am_st (am_st (am_st (am_st (am_st (am_st (am_st (am_t0 h) 59 3 w) 59 4 t) 59 5 0) 59 6 0) 59 7 0) 59 9 0) 59 11 0) 59 12 0)) (H1 : ¬ ((2 ≤ w ∧ w ≤ 5) ∧ (2 ≤ t ∧ t ≤ 5)) → K (0, 0) (am_t0 h)) : am_C true L xs P (d + 2) 167 [(2, 59), (0, w), (0, t)] h K := by
  refine eX12_land ?_
  refine bX12_land_0 ?_
  refine kX12_isIn (fun g1 => ?_) (fun g1 => ?_)
  · try dsimp only
    refine ⟨fun _ => ?_, fun z => absurd (by decide) z⟩
    refine bX12_land_23 ?_
    refine ⟨(by first | omega | (simp only [am_tell, am_t0, am_st, reduceIte, Nat.reduceEqDiff] at *; omega)), ?_⟩
    first | exact H0 (by omega) | exact H1 (by omega) | (simp only [am_t0, am_st, reduceIte, Nat.reduceEqDiff] at *; first | exact H0 (by omega) | exact H1 (by omega) | (exfalso; omega))
  · try dsimp only
    refine ⟨fun z => absurd z (by decide), fun _ => ?_⟩
    refine kX12_isIn (fun g2 => ?_) (fun g2 => ?_)
    · try dsimp only
      refine ⟨fun z => absurd z (by decide), fun _ => ?_⟩
      refine bX12_land_23 ?_
      refine ⟨(by first | omega | (simp only [am_tell, am_t0, am_st, reduceIte, Nat.reduceEqDiff] at *; omega)), ?_⟩
      first | exact H0 (by omega) | exact H1 (by omega) | (simp only [am_t0, am_st, reduceIte, Nat.reduceEqDiff] at *; first | exact H0 (by omega) | exact H1 (by omega) | (exfalso; omega))
    · try dsimp only
      refine ⟨fun _ => ?_, fun z => absurd (by decide) z⟩
      refine bX12_land_25 ?_
      refine ⟨(by first | omega | (simp only [am_tell, am_t0, am_st, reduceIte, Nat.reduceEqDiff] at *; omega)), ?_⟩
      first | exact H0 (by omega) | exact H1 (by omega) | (simp only [am_t0, am_st, reduceIte, Nat.reduceEqDiff] at *; first | exact H0 (by omega) | exact H1 (by omega) | (exfalso; omega))
theorem kX12_body {L : Nat} {xs : Nat → Int} {P : Nat → List am_V → am_H → am_K → Prop} {d : Nat} {h : am_H} {K : am_K} {c : Int} (hw : 2 ≤ h 59 3 ∧ h 59 3 ≤ 5) (ht : 2 ≤ h 59 4 ∧ h 59 4 ≤ 5) (hp : h 59 3 * h 59 4 ≤ 25 ∧ 0 ≤ h 59 3 * h 59 4) (hn : 0 ≤ h 59 11 ∧ h 59 11 ≤ 90) (hm : 0 ≤ h 59 12 ∧ h 59 12 ≤ 10) (H0 : (0 ≤ c ∧ c < h 59 3 * h 59 4) ∧ ¬ (h 59 12 = 10 ∨ h 59 11 = 90) → K (0, h 59 12 + 1 - 1) (am_st (am_st (am_tell (am_st (am_t0 h) 67 (Int.toNat (h 59 12)) c) 0 (h 59 12) 0 0) 68 (Int.toNat (h 59 12)) (h 59 11 + 1 - 1)) 59 12 (h 59 12 + 1))) (H1 : ¬ ((0 ≤ c ∧ c < h 59 3 * h 59 4) ∧ ¬ (h 59 12 = 10 ∨ h 59 11 = 90)) → K (0, -1) (am_t0 h)) : am_C true L xs P (d + 2) 171 [(2, 59), (0, c)] h K := by
  refine eX12_body ?_
  refine bX12_body_0 ?_
  refine ⟨fun g1 => ?_, fun g1 => ?_⟩
  · refine bX12_body_31 ?_
    first | exact H0 (by omega) | exact H1 (by omega) | (simp only [am_t0, am_st, reduceIte, Nat.reduceEqDiff] at *; first | exact H0 (by omega) | exact H1 (by omega) | (exfalso; omega))
  · refine ⟨fun g2 => ?_, fun g2 => ?_⟩
    · refine bX12_body_31 ?_
      first | exact H0 (by omega) | exact H1 (by omega) | (simp only [am_t0, am_st, reduceIte, Nat.reduceEqDiff] at *; first | exact H0 (by omega) | exact H1 (by omega) | (exfalso; omega))
    · refine kX12_isCell (by first | omega | (simp only [am_t0, am_st, reduceIte, Nat.reduceEqDiff] at *; omega)) (by first | omega | (simp only [am_t0, am_st, reduceIte, Nat.reduceEqDiff] at *; omega)) (by first | omega | (simp only [am_t0, am_st, reduceIte, Nat.reduceEqDiff] at *; omega)) (fun g3 => ?_) (fun g3 => ?_)
      · try dsimp only
        refine ⟨fun z => absurd z (by decide), fun _ => ?_⟩
        refine bX12_body_31 ?_
        first | exact H0 (by omega) | exact H1 (by omega) | (simp only [am_t0, am_st, reduceIte, Nat.reduceEqDiff] at *; first | exact H0 (by omega) | exact H1 (by omega) | (exfalso; omega))
      · try dsimp only
        refine ⟨fun _ => ?_, fun z => absurd (by decide) z⟩
        refine bX12_body_33 ?_
        refine ⟨(by first | omega | (simp only [am_tell, am_t0, am_st, reduceIte, Nat.reduceEqDiff] at *; omega)), ?_⟩
        refine kX12_tell (by first | omega | (simp only [am_t0, am_st, reduceIte, Nat.reduceEqDiff] at *; omega)) ?_
        try dsimp only
        refine ⟨(by first | omega | (simp only [am_tell, am_t0, am_st, reduceIte, Nat.reduceEqDiff] at *; omega)), ?_⟩
        refine ⟨(by first | omega | (simp only [am_tell, am_t0, am_st, reduceIte, Nat.reduceEqDiff] at *; omega)), ?_⟩
        refine ⟨(by first | omega | (simp only [am_tell, am_t0, am_st, reduceIte, Nat.reduceEqDiff] at *; omega)), ?_⟩
        first | exact H0 (by omega) | exact H1 (by omega) | (simp only [am_t0, am_st, reduceIte, Nat.reduceEqDiff] at *; first | exact H0 (by omega) | exact H1 (by omega) | (exfalso; omega))
