/-! more leaves -/
theorem kX5_addBody {L : Nat} {xs : Nat → Int} {P : Nat → List am_V → am_H → am_K → Prop} {d : Nat} {h : am_H} {K : am_K} {c : Int} (hn : 0 ≤ h 34 4 ∧ h 34 4 ≤ 90) (hm : 0 ≤ h 34 5 ∧ h 34 5 ≤ 10) (H0 : h 34 5 = 10 ∨ h 34 4 = 90 → K (0, -1) h) (H1 : ¬ (h 34 5 = 10 ∨ h 34 4 = 90) → K (0, h 34 5 + 1 - 1) (am_st (am_add h 0 (h 34 5) 0 c) 34 5 (h 34 5 + 1))) : am_C true L xs P (d + 2) 59 [(2, 34), (0, c)] h K := by
  refine eX5_addBody ?_
  refine bX5_addBody_0 ?_
  refine ⟨fun g1 => ?_, fun g1 => ?_⟩
  · refine bX5_addBody_24 ?_
    first | exact H0 (by omega) | exact H1 (by omega) | (exfalso; (try dsimp only at *); omega)
  · refine kX5_add (by omega) (fun g2 => ?_) (fun g2 => ?_)
    · try dsimp only
      refine ⟨fun z => absurd z (by decide), fun _ => ?_⟩
      refine bX5_addBody_24 ?_
      first | exact H0 (by omega) | exact H1 (by omega) | (exfalso; (try dsimp only at *); omega)
    · try dsimp only
      refine ⟨fun g3 => ?_, fun g3 => ?_⟩
      · refine bX5_addBody_26 ?_
        refine ⟨(by first | omega | (simp only [am_add, am_st, if_true, if_false, reduceIte, Nat.reduceEqDiff]; omega)), ?_⟩
        refine ⟨(by first | omega | (simp only [am_add, am_st, if_true, if_false, reduceIte, Nat.reduceEqDiff]; omega)), ?_⟩
        first | exact H0 (by omega) | exact H1 (by omega) | (exfalso; (try dsimp only at *); omega)
      · refine bX5_addBody_24 ?_
        first | exact H0 (by omega) | exact H1 (by omega) | (exfalso; (try dsimp only at *); omega)
def am_adds (h : am_H) (u c f t : Int) : am_H := am_st (am_st (am_st (am_st (am_st h 23 (Int.toNat (h 20 14)) u) 24 (Int.toNat (h 20 14)) c) 25 (Int.toNat (h 20 14)) f) 26 (Int.toNat (h 20 14)) t) 20 14 (h 20 14 + 1)
theorem kX6_addStand {L : Nat} {xs : Nat → Int} {P : Nat → List am_V → am_H → am_K → Prop} {d : Nat} {h : am_H} {K : am_K} {u c f t : Int} (hn : 0 ≤ h 20 14 ∧ h 20 14 ≤ 20) (H0 : h 20 14 = 20 → K (0, -1) h) (H1 : ¬ h 20 14 = 20 → K (0, h 20 14 + 1 - 1) (am_adds h u c f t)) : am_C true L xs P (d + 1) 65 [(2, 20), (0, u), (0, c), (0, f), (0, t)] h K := by
  refine eX6_addStand ?_
  refine bX6_addStand_0 ?_
  refine ⟨fun g1 => ?_, fun g1 => ?_⟩
  · refine bX6_addStand_11 ?_
    refine ⟨(by first | omega | (simp only [am_add, am_st, if_true, if_false, reduceIte, Nat.reduceEqDiff]; omega)), ?_⟩
    refine ⟨(by first | omega | (simp only [am_add, am_st, if_true, if_false, reduceIte, Nat.reduceEqDiff]; omega)), ?_⟩
    refine ⟨(by first | omega | (simp only [am_add, am_st, if_true, if_false, reduceIte, Nat.reduceEqDiff]; omega)), ?_⟩
    refine ⟨(by first | omega | (simp only [am_add, am_st, if_true, if_false, reduceIte, Nat.reduceEqDiff]; omega)), ?_⟩
    refine ⟨(by first | omega | (simp only [am_add, am_st, if_true, if_false, reduceIte, Nat.reduceEqDiff]; omega)), ?_⟩
    refine ⟨(by first | omega | (simp only [am_add, am_st, if_true, if_false, reduceIte, Nat.reduceEqDiff]; omega)), ?_⟩
    first | exact H0 (by omega) | exact H1 (by omega) | (exfalso; (try dsimp only at *); omega)
  · first | exact H0 (by omega) | exact H1 (by omega) | (exfalso; (try dsimp only at *); omega)
theorem kX6_trait {L : Nat} {xs : Nat → Int} {P : Nat → List am_V → am_H → am_K → Prop} {d : Nat} {h : am_H} {K : am_K} {m t : Int} (hm : 0 ≤ m ∧ m < 14) (ht : 0 ≤ t ∧ t < 14) (H : K (0, h 32 (Int.toNat (m * 14 + t))) h) : am_C true L xs P (d + 1) 68 [(2, 20), (0, m), (0, t)] h K := by
  refine eX6_trait ?_
  refine bX6_trait_0 ?_
  refine ⟨(by first | omega | (refine ⟨by omega, by omega, by omega, am_p2 (by omega) (by omega)⟩) | (simp [am_st]; omega)), ?_⟩
  refine ⟨(by first | omega | (refine ⟨by omega, by omega, by omega, am_p2 (by omega) (by omega)⟩) | (simp [am_st]; omega)), ?_⟩
  refine ⟨(by first | omega | (refine ⟨by omega, by omega, by omega, am_p2 (by omega) (by omega)⟩) | (simp [am_st]; omega)), ?_⟩
  exact H
theorem kX2_reading {L : Nat} {xs : Nat → Int} {P : Nat → List am_V → am_H → am_K → Prop} {d : Nat} {h : am_H} {K : am_K} {m t : Int} (hm : 0 ≤ m ∧ m < 10) (ht : 0 ≤ t ∧ t < 14) (H : K (0, h 41 (Int.toNat (m * 14 + t))) h) : am_C true L xs P (d + 1) 26 [(2, 39), (0, m), (0, t)] h K := by
  refine eX2_reading ?_
  refine bX2_reading_0 ?_
  refine ⟨(by first | omega | (refine ⟨by omega, by omega, by omega, am_p2 (by omega) (by omega)⟩) | (simp [am_st]; omega)), ?_⟩
  refine ⟨(by first | omega | (refine ⟨by omega, by omega, by omega, am_p2 (by omega) (by omega)⟩) | (simp [am_st]; omega)), ?_⟩
  refine ⟨(by first | omega | (refine ⟨by omega, by omega, by omega, am_p2 (by omega) (by omega)⟩) | (simp [am_st]; omega)), ?_⟩
  exact H
theorem kX4_verdict {L : Nat} {xs : Nat → Int} {P : Nat → List am_V → am_H → am_K → Prop} {d : Nat} {h : am_H} {K : am_K} {m t : Int} (hm : 0 ≤ m ∧ m < 10) (ht : 0 ≤ t ∧ t < 14) (H : K (0, h 45 (Int.toNat (m * 14 + t))) h) : am_C true L xs P (d + 1) 40 [(2, 44), (0, m), (0, t)] h K := by
  refine eX4_verdict ?_
  refine bX4_verdict_0 ?_
  refine ⟨(by first | omega | (refine ⟨by omega, by omega, by omega, am_p2 (by omega) (by omega)⟩) | (simp [am_st]; omega)), ?_⟩
  refine ⟨(by first | omega | (refine ⟨by omega, by omega, by omega, am_p2 (by omega) (by omega)⟩) | (simp [am_st]; omega)), ?_⟩
  refine ⟨(by first | omega | (refine ⟨by omega, by omega, by omega, am_p2 (by omega) (by omega)⟩) | (simp [am_st]; omega)), ?_⟩
  exact H
def am_ab (a : Int) : Int := if a < 0 then -a else a
def am_mx2 (a b : Int) : Int := if a < b then b else a
def am_fr (h : am_H) (a b : Int) : Int := am_mx2 (am_ab (h 21 (Int.toNat a) - h 21 (Int.toNat b))) (am_ab (h 22 (Int.toNat a) - h 22 (Int.toNat b)))
theorem kX6_far {L : Nat} {xs : Nat → Int} {P : Nat → List am_V → am_H → am_K → Prop} {d : Nat} {h : am_H} {K : am_K} {a b : Int} (ha : 0 ≤ a ∧ a < 25) (hb : 0 ≤ b ∧ b < 25) (h1 : 0 ≤ h 21 (Int.toNat a) ∧ h 21 (Int.toNat a) ≤ 4) (h2 : 0 ≤ h 21 (Int.toNat b) ∧ h 21 (Int.toNat b) ≤ 4) (h3 : 0 ≤ h 22 (Int.toNat a) ∧ h 22 (Int.toNat a) ≤ 4) (h4 : 0 ≤ h 22 (Int.toNat b) ∧ h 22 (Int.toNat b) ≤ 4) (H : K (0, am_fr h a b) h) : am_C true L xs P (d + 2) 70 [(2, 20), (0, a), (0, b)] h K := by
  refine eX6_far ?_
  refine bX6_far_0 ?_
  refine ⟨(by first | omega | (refine ⟨by omega, by omega, by omega, am_p2 (by omega) (by omega)⟩) | (simp [am_st]; omega)), ?_⟩
  refine ⟨(by first | omega | (refine ⟨by omega, by omega, by omega, am_p2 (by omega) (by omega)⟩) | (simp [am_st]; omega)), ?_⟩
  refine ⟨(by first | omega | (refine ⟨by omega, by omega, by omega, am_p2 (by omega) (by omega)⟩) | (simp [am_st]; omega)), ?_⟩
  refine kJ9_abs_0f7a4 (by omega) ?_
  try dsimp only
  refine ⟨(by first | omega | (refine ⟨by omega, by omega, by omega, am_p2 (by omega) (by omega)⟩) | (simp [am_st]; omega)), ?_⟩
  refine ⟨(by first | omega | (refine ⟨by omega, by omega, by omega, am_p2 (by omega) (by omega)⟩) | (simp [am_st]; omega)), ?_⟩
  refine ⟨(by first | omega | (refine ⟨by omega, by omega, by omega, am_p2 (by omega) (by omega)⟩) | (simp [am_st]; omega)), ?_⟩
  refine kJ9_abs_0f7a4 (by omega) ?_
  try dsimp only
  refine kJ9_max_7cf53 ?_
  try dsimp only
  exact H
theorem kX10_addField {L : Nat} {xs : Nat → Int} {P : Nat → List am_V → am_H → am_K → Prop} {d : Nat} {h : am_H} {K : am_K} {n : Int} (hn : 0 ≤ h 55 3 ∧ h 55 3 ≤ 8) (H0 : h 55 3 = 8 → K (0, -1) h) (H1 : ¬ h 55 3 = 8 → K (0, h 55 3 + 1 - 1) (am_st (am_st h 56 (Int.toNat (h 55 3)) n) 55 3 (h 55 3 + 1))) : am_C true L xs P (d + 1) 90 [(2, 55), (0, n)] h K := by
  refine eX10_addField ?_
  refine bX10_addField_0 ?_
  refine ⟨fun g1 => ?_, fun g1 => ?_⟩
  · refine bX10_addField_11 ?_
    refine ⟨(by first | omega | (simp only [am_add, am_st, if_true, if_false, reduceIte, Nat.reduceEqDiff]; omega)), ?_⟩
    refine ⟨(by first | omega | (simp only [am_add, am_st, if_true, if_false, reduceIte, Nat.reduceEqDiff]; omega)), ?_⟩
    refine ⟨(by first | omega | (simp only [am_add, am_st, if_true, if_false, reduceIte, Nat.reduceEqDiff]; omega)), ?_⟩
    first | exact H0 (by omega) | exact H1 (by omega) | (exfalso; (try dsimp only at *); omega)
  · first | exact H0 (by omega) | exact H1 (by omega) | (exfalso; (try dsimp only at *); omega)
theorem kX10_setKin {L : Nat} {xs : Nat → Int} {P : Nat → List am_V → am_H → am_K → Prop} {d : Nat} {h : am_H} {K : am_K} {f s n : Int} (hf : 0 ≤ f ∧ f < 8) (hs : 0 ≤ s ∧ s < 21) (H : K (9, 0) (am_st h 57 (Int.toNat (f * 21 + s)) n)) : am_C true L xs P (d + 1) 91 [(2, 55), (0, f), (0, s), (0, n)] h K := by
  refine eX10_setKin ?_
  refine bX10_setKin_0 ?_
  refine ⟨(by first | omega | (refine ⟨by omega, by omega, by omega, am_p2 (by omega) (by omega)⟩) | (simp [am_st]; omega)), ?_⟩
  refine ⟨(by first | omega | (refine ⟨by omega, by omega, by omega, am_p2 (by omega) (by omega)⟩) | (simp [am_st]; omega)), ?_⟩
  refine ⟨(by first | omega | (refine ⟨by omega, by omega, by omega, am_p2 (by omega) (by omega)⟩) | (simp [am_st]; omega)), ?_⟩
  exact H
theorem kX10_seasonOf {L : Nat} {xs : Nat → Int} {P : Nat → List am_V → am_H → am_K → Prop} {d : Nat} {h : am_H} {K : am_K} {c : Int} (hc : 1 ≤ c ∧ c ≤ 100000) (hp : 0 < h 55 4) (H : K (0, (c - 1) / h 55 4) h) : am_C true L xs P (d + 1) 92 [(2, 55), (0, c)] h K := by
  refine eX10_seasonOf ?_
  refine bX10_seasonOf_0 ?_
  refine ⟨fun g1 => ?_, fun g1 => ?_⟩
  · refine bX10_seasonOf_18 ?_
    refine bX10_seasonOf_19 ?_
    first | exact H | (exfalso; (try dsimp only at *); omega)
  · refine ⟨(by first | omega | (refine ⟨by omega, by omega, by omega, am_p2 (by omega) (by omega)⟩) | (simp [am_st]; omega)), ?_⟩
    refine ⟨(by first | omega | (refine ⟨by omega, by omega, by omega, am_p2 (by omega) (by omega)⟩) | (simp [am_st]; omega)), ?_⟩
    refine bX10_seasonOf_19 ?_
    first | exact H | (exfalso; (try dsimp only at *); omega)
theorem kX1_refuse {L : Nat} {xs : Nat → Int} {P : Nat → List am_V → am_H → am_K → Prop} {d : Nat} {h : am_H} {K : am_K} {w : Int} (H : K (9, 0) (if h 4 8 = 0 then am_st (am_st h 4 8 w) 4 9 (h 4 5) else h)) : am_C true L xs P (d + 1) 18 [(2, 4), (0, w)] h K := by
  refine eX1_refuse ?_
  refine bX1_refuse_0 ?_
  refine ⟨fun g1 => ?_, fun g1 => ?_⟩
  · refine bX1_refuse_20 ?_
    first | (rw [if_pos (by omega)] at H; exact H) | (rw [if_neg (by omega)] at H; exact H)
  · refine bX1_refuse_20 ?_
    first | (rw [if_pos (by omega)] at H; exact H) | (rw [if_neg (by omega)] at H; exact H)
theorem kX11_fault {L : Nat} {xs : Nat → Int} {P : Nat → List am_V → am_H → am_K → Prop} {d : Nat} {h : am_H} {K : am_K} {w : Int} (H0 : w = 0 → K (0, h 1 11) h) (H1 : w = 1 → K (0, h 1 12) h) (H2 : ¬ w = 0 ∧ ¬ w = 1 → K (0, -1) h) : am_C true L xs P (d + 1) 105 [(2, 1), (0, w)] h K := by
  refine eX11_fault ?_
  refine bX11_fault_0 ?_
  refine ⟨fun g1 => ?_, fun g1 => ?_⟩
  · refine bX11_fault_9 ?_
    refine ⟨fun g2 => ?_, fun g2 => ?_⟩
    · refine bX11_fault_21 ?_
      refine bX11_fault_22 ?_
      first | exact H0 (by omega) | exact H1 (by omega) | exact H2 (by omega) | (exfalso; (try dsimp only at *); omega)
    · refine bX11_fault_22 ?_
      first | exact H0 (by omega) | exact H1 (by omega) | exact H2 (by omega) | (exfalso; (try dsimp only at *); omega)
  · first | exact H0 (by omega) | exact H1 (by omega) | exact H2 (by omega) | (exfalso; (try dsimp only at *); omega)
theorem kX11_line {L : Nat} {xs : Nat → Int} {P : Nat → List am_V → am_H → am_K → Prop} {d : Nat} {h : am_H} {K : am_K} {k : Int} (hl : h 17 3 ≤ 6) (H0 : 0 ≤ k ∧ k < h 17 3 → K (0, h 18 (Int.toNat k)) h) (H1 : ¬ (0 ≤ k ∧ k < h 17 3) → K (0, -1) h) : am_C true L xs P (d + 1) 106 [(2, 1), (0, k)] h K := by
  refine eX11_line ?_
  refine bX11_line_0 ?_
  refine ⟨fun g1 => ?_, fun g1 => ?_⟩
  · refine bX11_line_27 ?_
    refine bX11_line_28 ?_
    first | exact H0 (by omega) | exact H1 (by omega) | (exfalso; (try dsimp only at *); omega)
  · refine ⟨fun g2 => ?_, fun g2 => ?_⟩
    · refine bX11_line_27 ?_
      refine bX11_line_28 ?_
      first | exact H0 (by omega) | exact H1 (by omega) | (exfalso; (try dsimp only at *); omega)
    · refine ⟨(by first | omega | (refine ⟨by omega, by omega, by omega, am_p2 (by omega) (by omega)⟩) | (simp [am_st]; omega)), ?_⟩
      refine bX11_line_28 ?_
      first | exact H0 (by omega) | exact H1 (by omega) | (exfalso; (try dsimp only at *); omega)
theorem kX11_stand {L : Nat} {xs : Nat → Int} {P : Nat → List am_V → am_H → am_K → Prop} {d : Nat} {h : am_H} {K : am_K} {u c f t : Int} (hn : 0 ≤ h 20 14 ∧ h 20 14 ≤ 20) (H0 : (0 ≤ u ∧ u ≤ 5) ∧ (0 ≤ c ∧ c < h 20 13) ∧ (0 ≤ f ∧ f ≤ 999) ∧ (0 ≤ t ∧ t ≤ 999) ∧ f ≤ t ∧ ¬ h 20 14 = 20 → K (0, h 20 14 + 1 - 1) (am_adds h u c f t)) (H1 : ¬ ((0 ≤ u ∧ u ≤ 5) ∧ (0 ≤ c ∧ c < h 20 13) ∧ (0 ≤ f ∧ f ≤ 999) ∧ (0 ≤ t ∧ t ≤ 999) ∧ f ≤ t ∧ ¬ h 20 14 = 20) → K (0, -1) h) : am_C true L xs P (d + 3) 108 [(2, 1), (0, u), (0, c), (0, f), (0, t)] h K := by
  refine eX11_stand ?_
  refine bX11_stand_0 ?_
  refine kX11_isUnit (fun g1 => ?_) (fun g1 => ?_)
  · try dsimp only
    refine ⟨fun _ => ?_, fun z => absurd (by decide) z⟩
    refine bX11_stand_39 ?_
    first | exact H0 (by omega) | exact H1 (by omega) | (exfalso; (try dsimp only at *); omega)
  · try dsimp only
    refine ⟨fun z => absurd z (by decide), fun _ => ?_⟩
    refine kX6_hasCell (fun g2 => ?_) (fun g2 => ?_)
    · try dsimp only
      refine ⟨fun _ => ?_, fun z => absurd (by decide) z⟩
      refine bX11_stand_39 ?_
      first | exact H0 (by omega) | exact H1 (by omega) | (exfalso; (try dsimp only at *); omega)
    · try dsimp only
      refine ⟨fun z => absurd z (by decide), fun _ => ?_⟩
      refine kX11_isDay (fun g3 => ?_) (fun g3 => ?_)
      · try dsimp only
        refine ⟨fun _ => ?_, fun z => absurd (by decide) z⟩
        refine bX11_stand_39 ?_
        first | exact H0 (by omega) | exact H1 (by omega) | (exfalso; (try dsimp only at *); omega)
      · try dsimp only
        refine ⟨fun z => absurd z (by decide), fun _ => ?_⟩
        refine kX11_isDay (fun g4 => ?_) (fun g4 => ?_)
        · try dsimp only
          refine ⟨fun _ => ?_, fun z => absurd (by decide) z⟩
          refine bX11_stand_39 ?_
          first | exact H0 (by omega) | exact H1 (by omega) | (exfalso; (try dsimp only at *); omega)
        · try dsimp only
          refine ⟨fun z => absurd z (by decide), fun _ => ?_⟩
          refine ⟨fun g5 => ?_, fun g5 => ?_⟩
          · refine bX11_stand_41 ?_
            refine kX6_addStand (by omega) (fun g6 => ?_) (fun g6 => ?_)
            · try dsimp only
              first | exact H0 (by omega) | exact H1 (by omega) | (exfalso; (try dsimp only at *); omega)
            · try dsimp only
              first | exact H0 (by omega) | exact H1 (by omega) | (exfalso; (try dsimp only at *); omega)
          · refine bX11_stand_39 ?_
            first | exact H0 (by omega) | exact H1 (by omega) | (exfalso; (try dsimp only at *); omega)
theorem kX11_body {L : Nat} {xs : Nat → Int} {P : Nat → List am_V → am_H → am_K → Prop} {d : Nat} {h : am_H} {K : am_K} {c : Int} (hn : 0 ≤ h 34 4 ∧ h 34 4 ≤ 90) (hm : 0 ≤ h 34 5 ∧ h 34 5 ≤ 10) (H0 : (0 ≤ c ∧ c < h 20 13) ∧ ¬ (h 34 5 = 10 ∨ h 34 4 = 90) → K (0, h 34 5 + 1 - 1) (am_st (am_add h 0 (h 34 5) 0 c) 34 5 (h 34 5 + 1))) (H1 : ¬ ((0 ≤ c ∧ c < h 20 13) ∧ ¬ (h 34 5 = 10 ∨ h 34 4 = 90)) → K (0, -1) h) : am_C true L xs P (d + 3) 110 [(2, 1), (0, c)] h K := by
  refine eX11_body ?_
  refine bX11_body_0 ?_
  refine kX6_hasCell (fun g1 => ?_) (fun g1 => ?_)
  · try dsimp only
    refine ⟨fun _ => ?_, fun z => absurd (by decide) z⟩
    refine bX11_body_22 ?_
    refine bX11_body_23 ?_
    first | exact H0 (by omega) | exact H1 (by omega) | (exfalso; (try dsimp only at *); omega)
  · try dsimp only
    refine ⟨fun z => absurd z (by decide), fun _ => ?_⟩
    refine kX5_addBody (by omega) (by omega) (fun g2 => ?_) (fun g2 => ?_)
    · try dsimp only
      refine bX11_body_23 ?_
      first | exact H0 (by omega) | exact H1 (by omega) | (exfalso; (try dsimp only at *); omega)
    · try dsimp only
      refine bX11_body_23 ?_
      first | exact H0 (by omega) | exact H1 (by omega) | (exfalso; (try dsimp only at *); omega)
theorem kX11_dig {L : Nat} {xs : Nat → Int} {P : Nat → List am_V → am_H → am_K → Prop} {d : Nat} {h : am_H} {K : am_K} {c : Int} (hn : 0 ≤ h 34 4 ∧ h 34 4 ≤ 90) (H0 : (0 ≤ c ∧ c < h 20 13) ∧ ¬ h 34 4 = 90 → K (0, h 34 4 + 1 - 1) (am_add h 2 c 0 0)) (H1 : ¬ ((0 ≤ c ∧ c < h 20 13) ∧ ¬ h 34 4 = 90) → K (0, -1) h) : am_C true L xs P (d + 2) 112 [(2, 1), (0, c)] h K := by
  refine eX11_dig ?_
  refine bX11_dig_0 ?_
  refine kX6_hasCell (fun g1 => ?_) (fun g1 => ?_)
  · try dsimp only
    refine ⟨fun _ => ?_, fun z => absurd (by decide) z⟩
    refine bX11_dig_25 ?_
    refine bX11_dig_26 ?_
    first | exact H0 (by omega) | exact H1 (by omega) | (exfalso; (try dsimp only at *); omega)
  · try dsimp only
    refine ⟨fun z => absurd z (by decide), fun _ => ?_⟩
    refine kX5_add (by omega) (fun g2 => ?_) (fun g2 => ?_)
    · try dsimp only
      refine bX11_dig_26 ?_
      first | exact H0 (by omega) | exact H1 (by omega) | (exfalso; (try dsimp only at *); omega)
    · try dsimp only
      refine bX11_dig_26 ?_
      first | exact H0 (by omega) | exact H1 (by omega) | (exfalso; (try dsimp only at *); omega)
theorem kX11_strike {L : Nat} {xs : Nat → Int} {P : Nat → List am_V → am_H → am_K → Prop} {d : Nat} {h : am_H} {K : am_K} {n : Int} (hn : 0 ≤ h 34 4 ∧ h 34 4 ≤ 90) (H0 : (0 ≤ n ∧ n < h 34 4) ∧ ¬ h 34 4 = 90 → K (0, h 34 4 + 1 - 1) (am_add h 3 n 0 0)) (H1 : ¬ ((0 ≤ n ∧ n < h 34 4) ∧ ¬ h 34 4 = 90) → K (0, -1) h) : am_C true L xs P (d + 2) 113 [(2, 1), (0, n)] h K := by
  refine eX11_strike ?_
  refine bX11_strike_0 ?_
  refine ⟨fun g1 => ?_, fun g1 => ?_⟩
  · refine bX11_strike_15 ?_
    first | exact H0 (by omega) | exact H1 (by omega) | (exfalso; (try dsimp only at *); omega)
  · refine ⟨fun g2 => ?_, fun g2 => ?_⟩
    · refine bX11_strike_17 ?_
      refine kX5_add (by omega) (fun g3 => ?_) (fun g3 => ?_)
      · try dsimp only
        first | exact H0 (by omega) | exact H1 (by omega) | (exfalso; (try dsimp only at *); omega)
      · try dsimp only
        first | exact H0 (by omega) | exact H1 (by omega) | (exfalso; (try dsimp only at *); omega)
    · refine bX11_strike_15 ?_
      first | exact H0 (by omega) | exact H1 (by omega) | (exfalso; (try dsimp only at *); omega)
theorem kX11_wall {L : Nat} {xs : Nat → Int} {P : Nat → List am_V → am_H → am_K → Prop} {d : Nat} {h : am_H} {K : am_K} (H : K (0, h 1 10) h) : am_C true L xs P (d + 1) 124 [(2, 1)] h K := by
  refine eX11_wall ?_
  refine bX11_wall_0 ?_
  exact H
theorem kX11_field {L : Nat} {xs : Nat → Int} {P : Nat → List am_V → am_H → am_K → Prop} {d : Nat} {h : am_H} {K : am_K} {n : Int} (hn : 0 ≤ h 55 3 ∧ h 55 3 ≤ 8) (H0 : (1 ≤ n ∧ n ≤ 999) ∧ ¬ h 55 3 = 8 → K (0, h 55 3 + 1 - 1) (am_st (am_st h 56 (Int.toNat (h 55 3)) n) 55 3 (h 55 3 + 1))) (H1 : ¬ ((1 ≤ n ∧ n ≤ 999) ∧ ¬ h 55 3 = 8) → K (0, -1) h) : am_C true L xs P (d + 2) 125 [(2, 1), (0, n)] h K := by
  refine eX11_field ?_
  refine bX11_field_0 ?_
  refine kX11_within (fun g1 => ?_) (fun g1 => ?_)
  · try dsimp only
    refine ⟨fun _ => ?_, fun z => absurd (by decide) z⟩
    refine bX11_field_22 ?_
    refine bX11_field_23 ?_
    first | exact H0 (by omega) | exact H1 (by omega) | (exfalso; (try dsimp only at *); omega)
  · try dsimp only
    refine ⟨fun z => absurd z (by decide), fun _ => ?_⟩
    refine kX10_addField (by omega) (fun g2 => ?_) (fun g2 => ?_)
    · try dsimp only
      refine bX11_field_23 ?_
      first | exact H0 (by omega) | exact H1 (by omega) | (exfalso; (try dsimp only at *); omega)
    · try dsimp only
      refine bX11_field_23 ?_
      first | exact H0 (by omega) | exact H1 (by omega) | (exfalso; (try dsimp only at *); omega)
theorem kX11_kin {L : Nat} {xs : Nat → Int} {P : Nat → List am_V → am_H → am_K → Prop} {d : Nat} {h : am_H} {K : am_K} {f s n : Int} (hn : h 55 3 ≤ 8) (H0 : (0 ≤ f ∧ f < h 55 3) ∧ (0 ≤ s ∧ s ≤ 20) ∧ (0 ≤ n ∧ n ≤ 99) → K (0, 1) (am_st h 57 (Int.toNat (f * 21 + s)) n)) (H1 : ¬ ((0 ≤ f ∧ f < h 55 3) ∧ (0 ≤ s ∧ s ≤ 20) ∧ (0 ≤ n ∧ n ≤ 99)) → K (0, 0) h) : am_C true L xs P (d + 2) 126 [(2, 1), (0, f), (0, s), (0, n)] h K := by
  refine eX11_kin ?_
  refine bX11_kin_0 ?_
  refine kX10_hasField (fun g1 => ?_) (fun g1 => ?_)
  · try dsimp only
    refine ⟨fun _ => ?_, fun z => absurd (by decide) z⟩
    refine bX11_kin_31 ?_
    refine ⟨(by first | omega | (refine ⟨by omega, by omega, by omega, am_p2 (by omega) (by omega)⟩) | (simp [am_st]; omega)), ?_⟩
    first | exact H0 (by omega) | exact H1 (by omega) | (exfalso; (try dsimp only at *); omega)
  · try dsimp only
    refine ⟨fun z => absurd z (by decide), fun _ => ?_⟩
    refine kX11_within (fun g2 => ?_) (fun g2 => ?_)
    · try dsimp only
      refine ⟨fun _ => ?_, fun z => absurd (by decide) z⟩
      refine bX11_kin_31 ?_
      refine ⟨(by first | omega | (refine ⟨by omega, by omega, by omega, am_p2 (by omega) (by omega)⟩) | (simp [am_st]; omega)), ?_⟩
      first | exact H0 (by omega) | exact H1 (by omega) | (exfalso; (try dsimp only at *); omega)
    · try dsimp only
      refine ⟨fun z => absurd z (by decide), fun _ => ?_⟩
      refine kX11_within (fun g3 => ?_) (fun g3 => ?_)
      · try dsimp only
        refine ⟨fun z => absurd z (by decide), fun _ => ?_⟩
        refine bX11_kin_31 ?_
        refine ⟨(by first | omega | (refine ⟨by omega, by omega, by omega, am_p2 (by omega) (by omega)⟩) | (simp [am_st]; omega)), ?_⟩
        first | exact H0 (by omega) | exact H1 (by omega) | (exfalso; (try dsimp only at *); omega)
      · try dsimp only
        refine ⟨fun _ => ?_, fun z => absurd (by decide) z⟩
        refine bX11_kin_33 ?_
        refine kX10_setKin (by omega) (by omega) ?_
        try dsimp only
        refine ⟨(by first | omega | (refine ⟨by omega, by omega, by omega, am_p2 (by omega) (by omega)⟩) | (simp [am_st]; omega)), ?_⟩
        first | exact H0 (by omega) | exact H1 (by omega) | (exfalso; (try dsimp only at *); omega)
theorem kX11_capacity {L : Nat} {xs : Nat → Int} {P : Nat → List am_V → am_H → am_K → Prop} {d : Nat} {h : am_H} {K : am_K} {n : Int} (H0 : 1 ≤ n ∧ n ≤ 999 → K (0, 1) (am_st h 55 4 n)) (H1 : ¬ (1 ≤ n ∧ n ≤ 999) → K (0, 0) h) : am_C true L xs P (d + 2) 127 [(2, 1), (0, n)] h K := by
  refine eX11_capacity ?_
  refine bX11_capacity_0 ?_
  refine kX11_within (fun g1 => ?_) (fun g1 => ?_)
  · try dsimp only
    refine ⟨fun z => absurd z (by decide), fun _ => ?_⟩
    refine ⟨(by first | omega | (refine ⟨by omega, by omega, by omega, am_p2 (by omega) (by omega)⟩) | (simp [am_st]; omega)), ?_⟩
    first | exact H0 (by omega) | exact H1 (by omega) | (exfalso; (try dsimp only at *); omega)
  · try dsimp only
    refine ⟨fun _ => ?_, fun z => absurd (by decide) z⟩
    refine bX11_capacity_13 ?_
    refine ⟨(by first | omega | (refine ⟨by omega, by omega, by omega, am_p2 (by omega) (by omega)⟩) | (simp [am_st]; omega)), ?_⟩
    first | exact H0 (by omega) | exact H1 (by omega) | (exfalso; (try dsimp only at *); omega)
