/-! leaves of the class that write, and readers -/
theorem kJ9_max_7cf53 {L : Nat} {xs : Nat → Int} {P : Nat → List am_V → am_H → am_K → Prop} {d : Nat} {h : am_H} {K : am_K} {a b : Int} (H : K (0, if a < b then b else a) h) : am_C true L xs P (d + 1) 221 [(0, a), (0, b)] h K := by
  refine eJ9_max_7cf53 ?_
  refine bJ9_max_7cf53_0 ?_
  refine ⟨fun g1 => ?_, fun g1 => ?_⟩
  · refine bJ9_max_7cf53_9 ?_
    refine bJ9_max_7cf53_10 ?_
    first | (rw [if_pos (by omega)] at H; exact H) | (rw [if_neg (by omega)] at H; exact H)
  · refine bJ9_max_7cf53_10 ?_
    first | (rw [if_pos (by omega)] at H; exact H) | (rw [if_neg (by omega)] at H; exact H)
theorem kJ9_min_7cf53 {L : Nat} {xs : Nat → Int} {P : Nat → List am_V → am_H → am_K → Prop} {d : Nat} {h : am_H} {K : am_K} {a b : Int} (H : K (0, if b < a then b else a) h) : am_C true L xs P (d + 1) 222 [(0, a), (0, b)] h K := by
  refine eJ9_min_7cf53 ?_
  refine bJ9_min_7cf53_0 ?_
  refine ⟨fun g1 => ?_, fun g1 => ?_⟩
  · refine bJ9_min_7cf53_9 ?_
    refine bJ9_min_7cf53_10 ?_
    first | (rw [if_pos (by omega)] at H; exact H) | (rw [if_neg (by omega)] at H; exact H)
  · refine bJ9_min_7cf53_10 ?_
    first | (rw [if_pos (by omega)] at H; exact H) | (rw [if_neg (by omega)] at H; exact H)
theorem kJ9_abs_0f7a4 {L : Nat} {xs : Nat → Int} {P : Nat → List am_V → am_H → am_K → Prop} {d : Nat} {h : am_H} {K : am_K} {a : Int} (ha : -2147483648 < a) (H : K (0, if a < 0 then -a else a) h) : am_C true L xs P (d + 1) 220 [(0, a)] h K := by
  refine eJ9_abs_0f7a4 ?_
  refine bJ9_abs_0f7a4_0 ?_
  refine ⟨fun g1 => ?_, fun g1 => ?_⟩
  · refine bJ9_abs_0f7a4_9 ?_
    refine bJ9_abs_0f7a4_10 ?_
    first | (rw [if_pos (by omega)] at H; exact H) | (rw [if_neg (by omega)] at H; exact H)
  · refine ⟨(by first | omega | (refine ⟨by omega, by omega, by omega, am_p2 (by omega) (by omega)⟩) | (simp [am_st]; omega)), ?_⟩
    refine bJ9_abs_0f7a4_10 ?_
    first | (rw [if_pos (by omega)] at H; exact H) | (rw [if_neg (by omega)] at H; exact H)
/-- the sign at a place of the tape -/
def am_sg (h : am_H) (p : Int) : Int := am_and (h 3 (Int.toNat p)) 255
theorem kX8_sign {L : Nat} {xs : Nat → Int} {P : Nat → List am_V → am_H → am_K → Prop} {d : Nat} {h : am_H} {K : am_K} {p : Int} (hp : 0 ≤ p ∧ p < 400) (H : K (0, am_sg h p) h) : am_C true L xs P (d + 1) 83 [(2, 2), (0, p)] h K := by
  refine eX8_sign ?_
  refine bX8_sign_0 ?_
  refine ⟨fun g1 => ?_, fun g1 => ?_⟩
  · refine bX8_sign_24 ?_
    refine bX8_sign_25 ?_
    first | exact H | (exfalso; omega)
  · refine ⟨fun g2 => ?_, fun g2 => ?_⟩
    · refine bX8_sign_24 ?_
      refine bX8_sign_25 ?_
      first | exact H | (exfalso; omega)
    · refine ⟨(by first | omega | (refine ⟨by omega, by omega, by omega, am_p2 (by omega) (by omega)⟩) | (simp [am_st]; omega)), ?_⟩
      intro g3
      refine bX8_sign_25 ?_
      first | exact H | (exfalso; omega)
theorem kX8_isSmallLetter {L : Nat} {xs : Nat → Int} {P : Nat → List am_V → am_H → am_K → Prop} {d : Nat} {h : am_H} {K : am_K} {p : Int} (hp : 0 ≤ p ∧ p < 400) (H0 : ¬ (97 ≤ am_sg h p ∧ am_sg h p ≤ 122) → K (0, 0) h) (H1 : 97 ≤ am_sg h p ∧ am_sg h p ≤ 122 → K (0, 1) h) : am_C true L xs P (d + 2) 84 [(2, 2), (0, p)] h K := by
  refine eX8_isSmallLetter ?_
  refine bX8_isSmallLetter_0 ?_
  refine kX8_sign (by omega) ?_
  try dsimp only
  refine ⟨fun g2 => ?_, fun g2 => ?_⟩
  · refine bX8_isSmallLetter_22 ?_
    refine bX8_isSmallLetter_23 ?_
    refine ⟨(by first | omega | (refine ⟨by omega, by omega, by omega, am_p2 (by omega) (by omega)⟩) | (simp [am_st]; omega)), ?_⟩
    first | exact H0 (by omega) | exact H1 (by omega)
  · refine ⟨fun g3 => ?_, fun g3 => ?_⟩
    · refine bX8_isSmallLetter_22 ?_
      refine bX8_isSmallLetter_23 ?_
      refine ⟨(by first | omega | (refine ⟨by omega, by omega, by omega, am_p2 (by omega) (by omega)⟩) | (simp [am_st]; omega)), ?_⟩
      first | exact H0 (by omega) | exact H1 (by omega)
    · refine bX8_isSmallLetter_23 ?_
      refine ⟨(by first | omega | (refine ⟨by omega, by omega, by omega, am_p2 (by omega) (by omega)⟩) | (simp [am_st]; omega)), ?_⟩
      first | exact H0 (by omega) | exact H1 (by omega)
theorem kX8_isDigit {L : Nat} {xs : Nat → Int} {P : Nat → List am_V → am_H → am_K → Prop} {d : Nat} {h : am_H} {K : am_K} {p : Int} (hp : 0 ≤ p ∧ p < 400) (H0 : ¬ (48 ≤ am_sg h p ∧ am_sg h p ≤ 57) → K (0, 0) h) (H1 : 48 ≤ am_sg h p ∧ am_sg h p ≤ 57 → K (0, 1) h) : am_C true L xs P (d + 2) 85 [(2, 2), (0, p)] h K := by
  refine eX8_isDigit ?_
  refine bX8_isDigit_0 ?_
  refine kX8_sign (by omega) ?_
  try dsimp only
  refine ⟨fun g2 => ?_, fun g2 => ?_⟩
  · refine bX8_isDigit_22 ?_
    refine bX8_isDigit_23 ?_
    refine ⟨(by first | omega | (refine ⟨by omega, by omega, by omega, am_p2 (by omega) (by omega)⟩) | (simp [am_st]; omega)), ?_⟩
    first | exact H0 (by omega) | exact H1 (by omega)
  · refine ⟨fun g3 => ?_, fun g3 => ?_⟩
    · refine bX8_isDigit_22 ?_
      refine bX8_isDigit_23 ?_
      refine ⟨(by first | omega | (refine ⟨by omega, by omega, by omega, am_p2 (by omega) (by omega)⟩) | (simp [am_st]; omega)), ?_⟩
      first | exact H0 (by omega) | exact H1 (by omega)
    · refine bX8_isDigit_23 ?_
      refine ⟨(by first | omega | (refine ⟨by omega, by omega, by omega, am_p2 (by omega) (by omega)⟩) | (simp [am_st]; omega)), ?_⟩
      first | exact H0 (by omega) | exact H1 (by omega)
theorem kX5_clear {L : Nat} {xs : Nat → Int} {P : Nat → List am_V → am_H → am_K → Prop} {d : Nat} {h : am_H} {K : am_K} (H : K (9, 0) (am_st (am_st h 34 4 0) 34 5 0)) : am_C true L xs P (d + 1) 57 [(2, 34)] h K := by
  refine eX5_clear ?_
  refine bX5_clear_0 ?_
  exact H
def am_add (h : am_H) (k s t v : Int) : am_H := am_st (am_st (am_st (am_st (am_st h 35 (Int.toNat (h 34 4)) k) 36 (Int.toNat (h 34 4)) s) 37 (Int.toNat (h 34 4)) t) 38 (Int.toNat (h 34 4)) v) 34 4 (h 34 4 + 1)
theorem kX5_add {L : Nat} {xs : Nat → Int} {P : Nat → List am_V → am_H → am_K → Prop} {d : Nat} {h : am_H} {K : am_K} {k s t v : Int} (hn : 0 ≤ h 34 4 ∧ h 34 4 ≤ 90) (H0 : h 34 4 = 90 → K (0, -1) h) (H1 : ¬ h 34 4 = 90 → K (0, h 34 4 + 1 - 1) (am_add h k s t v)) : am_C true L xs P (d + 1) 60 [(2, 34), (0, k), (0, s), (0, t), (0, v)] h K := by
  refine eX5_add ?_
  refine bX5_add_0 ?_
  refine ⟨fun g1 => ?_, fun g1 => ?_⟩
  · refine bX5_add_11 ?_
    refine ⟨(by first | omega | (simp only [am_st, if_true, if_false, reduceIte, Nat.reduceEqDiff]; omega)), ?_⟩
    refine ⟨(by first | omega | (simp only [am_st, if_true, if_false, reduceIte, Nat.reduceEqDiff]; omega)), ?_⟩
    refine ⟨(by first | omega | (simp only [am_st, if_true, if_false, reduceIte, Nat.reduceEqDiff]; omega)), ?_⟩
    refine ⟨(by first | omega | (simp only [am_st, if_true, if_false, reduceIte, Nat.reduceEqDiff]; omega)), ?_⟩
    refine ⟨(by first | omega | (simp only [am_st, if_true, if_false, reduceIte, Nat.reduceEqDiff]; omega)), ?_⟩
    refine ⟨(by first | omega | (simp only [am_st, if_true, if_false, reduceIte, Nat.reduceEqDiff]; omega)), ?_⟩
    first | exact H0 (by omega) | exact H1 (by omega)
  · first | exact H0 (by omega) | exact H1 (by omega)
