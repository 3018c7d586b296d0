/-! more of the class, and of the model -/
theorem kX11_thingOf {L : Nat} {xs : Nat → Int} {P : Nat → List am_V → am_H → am_K → Prop} {d : Nat} {h : am_H} {K : am_K} {k p : Int} (H0 : k = 0 ∧ 0 ≤ p ∧ p ≤ 3 → K (0, p) h) (H1 : k = 1 → K (0, 4) h) (H2 : k = 2 → K (0, 5) h) (H3 : k = 3 ∧ 0 ≤ p ∧ p ≤ 7 → K (0, 6 + p) h) (H4 : ¬ ((k = 0 ∧ 0 ≤ p ∧ p ≤ 3) ∨ k = 1 ∨ k = 2 ∨ (k = 3 ∧ 0 ≤ p ∧ p ≤ 7)) → K (0, -1) h) : am_C true L xs P (d + 2) 136 [(0, k), (0, p)] h K := by
  refine eX11_thingOf ?_
  refine bX11_thingOf_0 ?_
  refine ⟨fun g1 => ?_, ⟨fun g1 => ?_, ⟨fun g1 => ?_, ⟨fun g1 => ?_, ⟨fun g1 => ?_,  trivial⟩⟩⟩⟩⟩
  · refine bX11_thingOf_70 ?_
    first | exact H0 (by omega) | exact H1 (by omega) | exact H2 (by omega) | exact H3 (by omega) | exact H4 (by omega) | (exfalso; (try dsimp only at *); omega)
  · refine bX11_thingOf_32 ?_
    refine kX11_within (fun g2 => ?_) (fun g2 => ?_)
    · try dsimp only
      refine ⟨fun _ => ?_, fun z => absurd (by decide) z⟩
      refine bX11_thingOf_45 ?_
      refine bX11_thingOf_46 ?_
      first | exact H0 (by omega) | exact H1 (by omega) | exact H2 (by omega) | exact H3 (by omega) | exact H4 (by omega) | (exfalso; (try dsimp only at *); omega)
    · try dsimp only
      refine ⟨fun z => absurd z (by decide), fun _ => ?_⟩
      refine bX11_thingOf_46 ?_
      first | exact H0 (by omega) | exact H1 (by omega) | exact H2 (by omega) | exact H3 (by omega) | exact H4 (by omega) | (exfalso; (try dsimp only at *); omega)
  · refine bX11_thingOf_47 ?_
    first | exact H0 (by omega) | exact H1 (by omega) | exact H2 (by omega) | exact H3 (by omega) | exact H4 (by omega) | (exfalso; (try dsimp only at *); omega)
  · refine bX11_thingOf_49 ?_
    first | exact H0 (by omega) | exact H1 (by omega) | exact H2 (by omega) | exact H3 (by omega) | exact H4 (by omega) | (exfalso; (try dsimp only at *); omega)
  · refine bX11_thingOf_51 ?_
    refine kX11_within (fun g3 => ?_) (fun g3 => ?_)
    · try dsimp only
      refine ⟨fun _ => ?_, fun z => absurd (by decide) z⟩
      refine bX11_thingOf_68 ?_
      refine bX11_thingOf_69 ?_
      first | exact H0 (by omega) | exact H1 (by omega) | exact H2 (by omega) | exact H3 (by omega) | exact H4 (by omega) | (exfalso; (try dsimp only at *); omega)
    · try dsimp only
      refine ⟨fun z => absurd z (by decide), fun _ => ?_⟩
      refine ⟨(by first | omega | (refine ⟨by omega, by omega, by omega, am_p2 (by omega) (by omega)⟩) | (simp [am_st]; omega)), ?_⟩
      refine bX11_thingOf_69 ?_
      first | exact H0 (by omega) | exact H1 (by omega) | exact H2 (by omega) | exact H3 (by omega) | exact H4 (by omega) | (exfalso; (try dsimp only at *); omega)
theorem kX11_canBeRead {L : Nat} {xs : Nat → Int} {P : Nat → List am_V → am_H → am_K → Prop} {d : Nat} {h : am_H} {K : am_K} {k v : Int} (H0 : ¬ ((k = 1 → 0 ≤ v ∧ v ≤ 5) ∧ (k = 3 → 0 ≤ v ∧ v ≤ 1) ∧ (0 ≤ v ∧ v ≤ 9)) → K (0, 0) h) (H1 : (k = 1 → 0 ≤ v ∧ v ≤ 5) ∧ (k = 3 → 0 ≤ v ∧ v ≤ 1) ∧ (0 ≤ v ∧ v ≤ 9) → K (0, 1) h) : am_C true L xs P (d + 3) 138 [(0, k), (0, v)] h K := by
  refine eX11_canBeRead ?_
  refine bX11_canBeRead_0 ?_
  refine ⟨fun g1 => ?_, fun g1 => ?_⟩
  · refine bX11_canBeRead_10 ?_
    refine ⟨fun g2 => ?_, fun g2 => ?_⟩
    · refine bX11_canBeRead_21 ?_
      refine bX11_canBeRead_23 ?_
      refine kX11_within (fun g3 => ?_) (fun g3 => ?_)
      · try dsimp only
        refine ⟨(by first | omega | (refine ⟨by omega, by omega, by omega, am_p2 (by omega) (by omega)⟩) | (simp [am_st]; omega)), ?_⟩
        first | exact H0 (by omega) | exact H1 (by omega)
      · try dsimp only
        refine ⟨(by first | omega | (refine ⟨by omega, by omega, by omega, am_p2 (by omega) (by omega)⟩) | (simp [am_st]; omega)), ?_⟩
        first | exact H0 (by omega) | exact H1 (by omega)
    · refine bX11_canBeRead_23 ?_
      refine kX11_within (fun g4 => ?_) (fun g4 => ?_)
      · try dsimp only
        refine ⟨(by first | omega | (refine ⟨by omega, by omega, by omega, am_p2 (by omega) (by omega)⟩) | (simp [am_st]; omega)), ?_⟩
        first | exact H0 (by omega) | exact H1 (by omega)
      · try dsimp only
        refine ⟨(by first | omega | (refine ⟨by omega, by omega, by omega, am_p2 (by omega) (by omega)⟩) | (simp [am_st]; omega)), ?_⟩
        first | exact H0 (by omega) | exact H1 (by omega)
  · refine kX11_isUnit (fun g5 => ?_) (fun g5 => ?_)
    · try dsimp only
      refine ⟨(by first | omega | (refine ⟨by omega, by omega, by omega, am_p2 (by omega) (by omega)⟩) | (simp [am_st]; omega)), ?_⟩
      first | exact H0 (by omega) | exact H1 (by omega)
    · try dsimp only
      refine ⟨(by first | omega | (refine ⟨by omega, by omega, by omega, am_p2 (by omega) (by omega)⟩) | (simp [am_st]; omega)), ?_⟩
      first | exact H0 (by omega) | exact H1 (by omega)
theorem kX11_read {L : Nat} {xs : Nat → Int} {P : Nat → List am_V → am_H → am_K → Prop} {d : Nat} {h : am_H} {K : am_K} {b k p v : Int} (hn : 0 ≤ h 34 4 ∧ h 34 4 ≤ 90) (H0 : ((0 ≤ b ∧ b < h 34 5) ∧ ((k = 0 ∧ 0 ≤ p ∧ p ≤ 3) ∨ k = 1 ∨ k = 2 ∨ (k = 3 ∧ 0 ≤ p ∧ p ≤ 7)) ∧ ((k = 1 → 0 ≤ v ∧ v ≤ 5) ∧ (k = 3 → 0 ≤ v ∧ v ≤ 1) ∧ (0 ≤ v ∧ v ≤ 9)) ∧ ¬ h 34 4 = 90) ∧ k = 0 → K (0, h 34 4 + 1 - 1) (am_add h 1 b p v)) (H1 : ((0 ≤ b ∧ b < h 34 5) ∧ ((k = 0 ∧ 0 ≤ p ∧ p ≤ 3) ∨ k = 1 ∨ k = 2 ∨ (k = 3 ∧ 0 ≤ p ∧ p ≤ 7)) ∧ ((k = 1 → 0 ≤ v ∧ v ≤ 5) ∧ (k = 3 → 0 ≤ v ∧ v ≤ 1) ∧ (0 ≤ v ∧ v ≤ 9)) ∧ ¬ h 34 4 = 90) ∧ k = 1 → K (0, h 34 4 + 1 - 1) (am_add h 1 b 4 v)) (H2 : ((0 ≤ b ∧ b < h 34 5) ∧ ((k = 0 ∧ 0 ≤ p ∧ p ≤ 3) ∨ k = 1 ∨ k = 2 ∨ (k = 3 ∧ 0 ≤ p ∧ p ≤ 7)) ∧ ((k = 1 → 0 ≤ v ∧ v ≤ 5) ∧ (k = 3 → 0 ≤ v ∧ v ≤ 1) ∧ (0 ≤ v ∧ v ≤ 9)) ∧ ¬ h 34 4 = 90) ∧ k = 2 → K (0, h 34 4 + 1 - 1) (am_add h 1 b 5 v)) (H3 : ((0 ≤ b ∧ b < h 34 5) ∧ ((k = 0 ∧ 0 ≤ p ∧ p ≤ 3) ∨ k = 1 ∨ k = 2 ∨ (k = 3 ∧ 0 ≤ p ∧ p ≤ 7)) ∧ ((k = 1 → 0 ≤ v ∧ v ≤ 5) ∧ (k = 3 → 0 ≤ v ∧ v ≤ 1) ∧ (0 ≤ v ∧ v ≤ 9)) ∧ ¬ h 34 4 = 90) ∧ k = 3 → K (0, h 34 4 + 1 - 1) (am_add h 1 b (6 + p) v)) (H4 : ¬ ((0 ≤ b ∧ b < h 34 5) ∧ ((k = 0 ∧ 0 ≤ p ∧ p ≤ 3) ∨ k = 1 ∨ k = 2 ∨ (k = 3 ∧ 0 ≤ p ∧ p ≤ 7)) ∧ ((k = 1 → 0 ≤ v ∧ v ≤ 5) ∧ (k = 3 → 0 ≤ v ∧ v ≤ 1) ∧ (0 ≤ v ∧ v ≤ 9)) ∧ ¬ h 34 4 = 90) → K (0, -1) h) : am_C true L xs P (d + 4) 111 [(2, 1), (0, b), (0, k), (0, p), (0, v)] h K := by
  refine eX11_read ?_
  refine bX11_read_0 ?_
  refine kX11_thingOf (fun g1 => ?_) (fun g1 => ?_) (fun g1 => ?_) (fun g1 => ?_) (fun g1 => ?_)
  · try dsimp only
    refine kX5_hasBody (fun g2 => ?_) (fun g2 => ?_)
    · try dsimp only
      refine ⟨fun _ => ?_, fun z => absurd (by decide) z⟩
      refine bX11_read_33 ?_
      first | exact H0 (by omega) | exact H1 (by omega) | exact H2 (by omega) | exact H3 (by omega) | exact H4 (by omega) | (exfalso; (try dsimp only at *); omega)
    · try dsimp only
      refine ⟨fun z => absurd z (by decide), fun _ => ?_⟩
      refine ⟨fun g3 => ?_, fun g3 => ?_⟩
      · refine bX11_read_33 ?_
        first | exact H0 (by omega) | exact H1 (by omega) | exact H2 (by omega) | exact H3 (by omega) | exact H4 (by omega) | (exfalso; (try dsimp only at *); omega)
      · refine kX11_canBeRead (fun g4 => ?_) (fun g4 => ?_)
        · try dsimp only
          refine ⟨fun z => absurd z (by decide), fun _ => ?_⟩
          refine bX11_read_33 ?_
          first | exact H0 (by omega) | exact H1 (by omega) | exact H2 (by omega) | exact H3 (by omega) | exact H4 (by omega) | (exfalso; (try dsimp only at *); omega)
        · try dsimp only
          refine ⟨fun _ => ?_, fun z => absurd (by decide) z⟩
          refine bX11_read_35 ?_
          refine kX5_add (by omega) (fun g5 => ?_) (fun g5 => ?_)
          · try dsimp only
            first | exact H0 (by omega) | exact H1 (by omega) | exact H2 (by omega) | exact H3 (by omega) | exact H4 (by omega) | (exfalso; (try dsimp only at *); omega)
          · try dsimp only
            first | exact H0 (by omega) | exact H1 (by omega) | exact H2 (by omega) | exact H3 (by omega) | exact H4 (by omega) | (exfalso; (try dsimp only at *); omega)
  · try dsimp only
    refine kX5_hasBody (fun g6 => ?_) (fun g6 => ?_)
    · try dsimp only
      refine ⟨fun _ => ?_, fun z => absurd (by decide) z⟩
      refine bX11_read_33 ?_
      first | exact H0 (by omega) | exact H1 (by omega) | exact H2 (by omega) | exact H3 (by omega) | exact H4 (by omega) | (exfalso; (try dsimp only at *); omega)
    · try dsimp only
      refine ⟨fun z => absurd z (by decide), fun _ => ?_⟩
      refine ⟨fun z => absurd z (by decide), fun _ => ?_⟩
      refine kX11_canBeRead (fun g7 => ?_) (fun g7 => ?_)
      · try dsimp only
        refine ⟨fun z => absurd z (by decide), fun _ => ?_⟩
        refine bX11_read_33 ?_
        first | exact H0 (by omega) | exact H1 (by omega) | exact H2 (by omega) | exact H3 (by omega) | exact H4 (by omega) | (exfalso; (try dsimp only at *); omega)
      · try dsimp only
        refine ⟨fun _ => ?_, fun z => absurd (by decide) z⟩
        refine bX11_read_35 ?_
        refine kX5_add (by omega) (fun g8 => ?_) (fun g8 => ?_)
        · try dsimp only
          first | exact H0 (by omega) | exact H1 (by omega) | exact H2 (by omega) | exact H3 (by omega) | exact H4 (by omega) | (exfalso; (try dsimp only at *); omega)
        · try dsimp only
          first | exact H0 (by omega) | exact H1 (by omega) | exact H2 (by omega) | exact H3 (by omega) | exact H4 (by omega) | (exfalso; (try dsimp only at *); omega)
  · try dsimp only
    refine kX5_hasBody (fun g9 => ?_) (fun g9 => ?_)
    · try dsimp only
      refine ⟨fun _ => ?_, fun z => absurd (by decide) z⟩
      refine bX11_read_33 ?_
      first | exact H0 (by omega) | exact H1 (by omega) | exact H2 (by omega) | exact H3 (by omega) | exact H4 (by omega) | (exfalso; (try dsimp only at *); omega)
    · try dsimp only
      refine ⟨fun z => absurd z (by decide), fun _ => ?_⟩
      refine ⟨fun z => absurd z (by decide), fun _ => ?_⟩
      refine kX11_canBeRead (fun g10 => ?_) (fun g10 => ?_)
      · try dsimp only
        refine ⟨fun z => absurd z (by decide), fun _ => ?_⟩
        refine bX11_read_33 ?_
        first | exact H0 (by omega) | exact H1 (by omega) | exact H2 (by omega) | exact H3 (by omega) | exact H4 (by omega) | (exfalso; (try dsimp only at *); omega)
      · try dsimp only
        refine ⟨fun _ => ?_, fun z => absurd (by decide) z⟩
        refine bX11_read_35 ?_
        refine kX5_add (by omega) (fun g11 => ?_) (fun g11 => ?_)
        · try dsimp only
          first | exact H0 (by omega) | exact H1 (by omega) | exact H2 (by omega) | exact H3 (by omega) | exact H4 (by omega) | (exfalso; (try dsimp only at *); omega)
        · try dsimp only
          first | exact H0 (by omega) | exact H1 (by omega) | exact H2 (by omega) | exact H3 (by omega) | exact H4 (by omega) | (exfalso; (try dsimp only at *); omega)
  · try dsimp only
    refine kX5_hasBody (fun g12 => ?_) (fun g12 => ?_)
    · try dsimp only
      refine ⟨fun _ => ?_, fun z => absurd (by decide) z⟩
      refine bX11_read_33 ?_
      first | exact H0 (by omega) | exact H1 (by omega) | exact H2 (by omega) | exact H3 (by omega) | exact H4 (by omega) | (exfalso; (try dsimp only at *); omega)
    · try dsimp only
      refine ⟨fun z => absurd z (by decide), fun _ => ?_⟩
      refine ⟨fun g13 => ?_, fun g13 => ?_⟩
      · refine bX11_read_33 ?_
        first | exact H0 (by omega) | exact H1 (by omega) | exact H2 (by omega) | exact H3 (by omega) | exact H4 (by omega) | (exfalso; (try dsimp only at *); omega)
      · refine kX11_canBeRead (fun g14 => ?_) (fun g14 => ?_)
        · try dsimp only
          refine ⟨fun z => absurd z (by decide), fun _ => ?_⟩
          refine bX11_read_33 ?_
          first | exact H0 (by omega) | exact H1 (by omega) | exact H2 (by omega) | exact H3 (by omega) | exact H4 (by omega) | (exfalso; (try dsimp only at *); omega)
        · try dsimp only
          refine ⟨fun _ => ?_, fun z => absurd (by decide) z⟩
          refine bX11_read_35 ?_
          refine kX5_add (by omega) (fun g15 => ?_) (fun g15 => ?_)
          · try dsimp only
            first | exact H0 (by omega) | exact H1 (by omega) | exact H2 (by omega) | exact H3 (by omega) | exact H4 (by omega) | (exfalso; (try dsimp only at *); omega)
          · try dsimp only
            first | exact H0 (by omega) | exact H1 (by omega) | exact H2 (by omega) | exact H3 (by omega) | exact H4 (by omega) | (exfalso; (try dsimp only at *); omega)
  · try dsimp only
    refine kX5_hasBody (fun g16 => ?_) (fun g16 => ?_)
    · try dsimp only
      refine ⟨fun _ => ?_, fun z => absurd (by decide) z⟩
      refine bX11_read_33 ?_
      first | exact H0 (by omega) | exact H1 (by omega) | exact H2 (by omega) | exact H3 (by omega) | exact H4 (by omega) | (exfalso; (try dsimp only at *); omega)
    · try dsimp only
      refine ⟨fun z => absurd z (by decide), fun _ => ?_⟩
      refine ⟨fun _ => ?_, fun z => absurd (by decide) z⟩
      refine bX11_read_33 ?_
      first | exact H0 (by omega) | exact H1 (by omega) | exact H2 (by omega) | exact H3 (by omega) | exact H4 (by omega) | (exfalso; (try dsimp only at *); omega)
theorem kX12_read {L : Nat} {xs : Nat → Int} {P : Nat → List am_V → am_H → am_K → Prop} {d : Nat} {h : am_H} {K : am_K} {b k p v : Int} (hn : 0 ≤ h 59 11 ∧ h 59 11 ≤ 90) (H0 : ((0 ≤ b ∧ b < h 59 12) ∧ ((k = 0 ∧ 0 ≤ p ∧ p ≤ 3) ∨ k = 1 ∨ k = 2 ∨ (k = 3 ∧ 0 ≤ p ∧ p ≤ 7)) ∧ ((k = 1 → 0 ≤ v ∧ v ≤ 5) ∧ (k = 3 → 0 ≤ v ∧ v ≤ 1) ∧ (0 ≤ v ∧ v ≤ 9)) ∧ ¬ h 59 11 = 90) ∧ k = 0 → K (0, h 59 11 + 1 - 1) (am_tell (am_t0 h) 1 b p v)) (H1 : ((0 ≤ b ∧ b < h 59 12) ∧ ((k = 0 ∧ 0 ≤ p ∧ p ≤ 3) ∨ k = 1 ∨ k = 2 ∨ (k = 3 ∧ 0 ≤ p ∧ p ≤ 7)) ∧ ((k = 1 → 0 ≤ v ∧ v ≤ 5) ∧ (k = 3 → 0 ≤ v ∧ v ≤ 1) ∧ (0 ≤ v ∧ v ≤ 9)) ∧ ¬ h 59 11 = 90) ∧ k = 1 → K (0, h 59 11 + 1 - 1) (am_tell (am_t0 h) 1 b (3 + k) v)) (H2 : ((0 ≤ b ∧ b < h 59 12) ∧ ((k = 0 ∧ 0 ≤ p ∧ p ≤ 3) ∨ k = 1 ∨ k = 2 ∨ (k = 3 ∧ 0 ≤ p ∧ p ≤ 7)) ∧ ((k = 1 → 0 ≤ v ∧ v ≤ 5) ∧ (k = 3 → 0 ≤ v ∧ v ≤ 1) ∧ (0 ≤ v ∧ v ≤ 9)) ∧ ¬ h 59 11 = 90) ∧ k = 2 → K (0, h 59 11 + 1 - 1) (am_tell (am_t0 h) 1 b (3 + k) v)) (H3 : ((0 ≤ b ∧ b < h 59 12) ∧ ((k = 0 ∧ 0 ≤ p ∧ p ≤ 3) ∨ k = 1 ∨ k = 2 ∨ (k = 3 ∧ 0 ≤ p ∧ p ≤ 7)) ∧ ((k = 1 → 0 ≤ v ∧ v ≤ 5) ∧ (k = 3 → 0 ≤ v ∧ v ≤ 1) ∧ (0 ≤ v ∧ v ≤ 9)) ∧ ¬ h 59 11 = 90) ∧ k = 3 → K (0, h 59 11 + 1 - 1) (am_tell (am_t0 h) 1 b (6 + p) v)) (H4 : ¬ ((0 ≤ b ∧ b < h 59 12) ∧ ((k = 0 ∧ 0 ≤ p ∧ p ≤ 3) ∨ k = 1 ∨ k = 2 ∨ (k = 3 ∧ 0 ≤ p ∧ p ≤ 7)) ∧ ((k = 1 → 0 ≤ v ∧ v ≤ 5) ∧ (k = 3 → 0 ≤ v ∧ v ≤ 1) ∧ (0 ≤ v ∧ v ≤ 9)) ∧ ¬ h 59 11 = 90) → K (0, -1) (am_t0 h)) : am_C true L xs P (d + 2) 172 [(2, 59), (0, b), (0, k), (0, p), (0, v)] h K := by
  refine eX12_read ?_
  refine bX12_read_0 ?_
  refine ⟨fun g1 => ?_, fun g1 => ?_⟩
  · refine bX12_read_63 ?_
    first | exact H0 (by omega) | exact H1 (by omega) | exact H2 (by omega) | exact H3 (by omega) | exact H4 (by omega) | (simp only [am_t0, am_st, reduceIte, Nat.reduceEqDiff] at *; first | exact H0 (by omega) | exact H1 (by omega) | exact H2 (by omega) | exact H3 (by omega) | exact H4 (by omega) | (exfalso; omega))
  · refine ⟨fun g2 => ?_, fun g2 => ?_⟩
    · refine bX12_read_63 ?_
      first | exact H0 (by omega) | exact H1 (by omega) | exact H2 (by omega) | exact H3 (by omega) | exact H4 (by omega) | (simp only [am_t0, am_st, reduceIte, Nat.reduceEqDiff] at *; first | exact H0 (by omega) | exact H1 (by omega) | exact H2 (by omega) | exact H3 (by omega) | exact H4 (by omega) | (exfalso; omega))
    · refine ⟨fun g3 => ?_, fun g3 => ?_⟩
      · refine bX12_read_63 ?_
        first | exact H0 (by omega) | exact H1 (by omega) | exact H2 (by omega) | exact H3 (by omega) | exact H4 (by omega) | (simp only [am_t0, am_st, reduceIte, Nat.reduceEqDiff] at *; first | exact H0 (by omega) | exact H1 (by omega) | exact H2 (by omega) | exact H3 (by omega) | exact H4 (by omega) | (exfalso; omega))
      · refine kX12_isIn (fun g4 => ?_) (fun g4 => ?_)
        · try dsimp only
          refine ⟨fun _ => ?_, fun z => absurd (by decide) z⟩
          refine bX12_read_63 ?_
          first | exact H0 (by omega) | exact H1 (by omega) | exact H2 (by omega) | exact H3 (by omega) | exact H4 (by omega) | (simp only [am_t0, am_st, reduceIte, Nat.reduceEqDiff] at *; first | exact H0 (by omega) | exact H1 (by omega) | exact H2 (by omega) | exact H3 (by omega) | exact H4 (by omega) | (exfalso; omega))
        · try dsimp only
          refine ⟨fun z => absurd z (by decide), fun _ => ?_⟩
          refine ⟨fun g5 => ?_, fun g5 => ?_⟩
          · refine bX12_read_48 ?_
            refine ⟨fun g6 => ?_, fun g6 => ?_⟩
            · refine bX12_read_65 ?_
              refine ⟨fun g7 => ?_, fun g7 => ?_⟩
              · refine bX12_read_74 ?_
                refine ⟨fun g8 => ?_, fun g8 => ?_⟩
                · refine bX12_read_83 ?_
                  refine bX12_read_85 ?_
                  refine kX12_isIn (fun g9 => ?_) (fun g9 => ?_)
                  · try dsimp only
                    refine ⟨fun _ => ?_, fun z => absurd (by decide) z⟩
                    refine bX12_read_132 ?_
                    refine bX12_read_133 ?_
                    first | exact H0 (by omega) | exact H1 (by omega) | exact H2 (by omega) | exact H3 (by omega) | exact H4 (by omega) | (simp only [am_t0, am_st, reduceIte, Nat.reduceEqDiff] at *; first | exact H0 (by omega) | exact H1 (by omega) | exact H2 (by omega) | exact H3 (by omega) | exact H4 (by omega) | (exfalso; omega))
                  · try dsimp only
                    refine ⟨fun z => absurd z (by decide), fun _ => ?_⟩
                    refine ⟨fun g10 => ?_, fun g10 => ?_⟩
                    · refine bX12_read_109 ?_
                      refine ⟨fun g11 => ?_, fun g11 => ?_⟩
                      · refine bX12_read_121 ?_
                        refine ⟨(by first | omega | (simp only [am_tell, am_t0, am_st, reduceIte, Nat.reduceEqDiff] at *; omega)), ?_⟩
                        refine bX12_read_124 ?_
                        refine kX12_tell (by first | omega | (simp only [am_t0, am_st, reduceIte, Nat.reduceEqDiff] at *; omega)) ?_
                        try dsimp only
                        refine bX12_read_133 ?_
                        first | exact H0 (by omega) | exact H1 (by omega) | exact H2 (by omega) | exact H3 (by omega) | exact H4 (by omega) | (simp only [am_t0, am_st, reduceIte, Nat.reduceEqDiff] at *; first | exact H0 (by omega) | exact H1 (by omega) | exact H2 (by omega) | exact H3 (by omega) | exact H4 (by omega) | (exfalso; omega))
                      · refine ⟨(by first | omega | (simp only [am_tell, am_t0, am_st, reduceIte, Nat.reduceEqDiff] at *; omega)), ?_⟩
                        refine bX12_read_124 ?_
                        refine kX12_tell (by first | omega | (simp only [am_t0, am_st, reduceIte, Nat.reduceEqDiff] at *; omega)) ?_
                        try dsimp only
                        refine bX12_read_133 ?_
                        first | exact H0 (by omega) | exact H1 (by omega) | exact H2 (by omega) | exact H3 (by omega) | exact H4 (by omega) | (simp only [am_t0, am_st, reduceIte, Nat.reduceEqDiff] at *; first | exact H0 (by omega) | exact H1 (by omega) | exact H2 (by omega) | exact H3 (by omega) | exact H4 (by omega) | (exfalso; omega))
                    · refine bX12_read_124 ?_
                      refine kX12_tell (by first | omega | (simp only [am_t0, am_st, reduceIte, Nat.reduceEqDiff] at *; omega)) ?_
                      try dsimp only
                      refine bX12_read_133 ?_
                      first | exact H0 (by omega) | exact H1 (by omega) | exact H2 (by omega) | exact H3 (by omega) | exact H4 (by omega) | (simp only [am_t0, am_st, reduceIte, Nat.reduceEqDiff] at *; first | exact H0 (by omega) | exact H1 (by omega) | exact H2 (by omega) | exact H3 (by omega) | exact H4 (by omega) | (exfalso; omega))
                · refine bX12_read_85 ?_
                  refine kX12_isIn (fun g15 => ?_) (fun g15 => ?_)
                  · try dsimp only
                    refine ⟨fun _ => ?_, fun z => absurd (by decide) z⟩
                    refine bX12_read_132 ?_
                    refine bX12_read_133 ?_
                    first | exact H0 (by omega) | exact H1 (by omega) | exact H2 (by omega) | exact H3 (by omega) | exact H4 (by omega) | (simp only [am_t0, am_st, reduceIte, Nat.reduceEqDiff] at *; first | exact H0 (by omega) | exact H1 (by omega) | exact H2 (by omega) | exact H3 (by omega) | exact H4 (by omega) | (exfalso; omega))
                  · try dsimp only
                    refine ⟨fun z => absurd z (by decide), fun _ => ?_⟩
                    refine ⟨fun g16 => ?_, fun g16 => ?_⟩
                    · refine bX12_read_109 ?_
                      refine ⟨fun g17 => ?_, fun g17 => ?_⟩
                      · refine bX12_read_121 ?_
                        refine ⟨(by first | omega | (simp only [am_tell, am_t0, am_st, reduceIte, Nat.reduceEqDiff] at *; omega)), ?_⟩
                        refine bX12_read_124 ?_
                        refine kX12_tell (by first | omega | (simp only [am_t0, am_st, reduceIte, Nat.reduceEqDiff] at *; omega)) ?_
                        try dsimp only
                        refine bX12_read_133 ?_
                        first | exact H0 (by omega) | exact H1 (by omega) | exact H2 (by omega) | exact H3 (by omega) | exact H4 (by omega) | (simp only [am_t0, am_st, reduceIte, Nat.reduceEqDiff] at *; first | exact H0 (by omega) | exact H1 (by omega) | exact H2 (by omega) | exact H3 (by omega) | exact H4 (by omega) | (exfalso; omega))
                      · refine ⟨(by first | omega | (simp only [am_tell, am_t0, am_st, reduceIte, Nat.reduceEqDiff] at *; omega)), ?_⟩
                        refine bX12_read_124 ?_
                        refine kX12_tell (by first | omega | (simp only [am_t0, am_st, reduceIte, Nat.reduceEqDiff] at *; omega)) ?_
                        try dsimp only
                        refine bX12_read_133 ?_
                        first | exact H0 (by omega) | exact H1 (by omega) | exact H2 (by omega) | exact H3 (by omega) | exact H4 (by omega) | (simp only [am_t0, am_st, reduceIte, Nat.reduceEqDiff] at *; first | exact H0 (by omega) | exact H1 (by omega) | exact H2 (by omega) | exact H3 (by omega) | exact H4 (by omega) | (exfalso; omega))
                    · refine bX12_read_124 ?_
                      refine kX12_tell (by first | omega | (simp only [am_t0, am_st, reduceIte, Nat.reduceEqDiff] at *; omega)) ?_
                      try dsimp only
                      refine bX12_read_133 ?_
                      first | exact H0 (by omega) | exact H1 (by omega) | exact H2 (by omega) | exact H3 (by omega) | exact H4 (by omega) | (simp only [am_t0, am_st, reduceIte, Nat.reduceEqDiff] at *; first | exact H0 (by omega) | exact H1 (by omega) | exact H2 (by omega) | exact H3 (by omega) | exact H4 (by omega) | (exfalso; omega))
              · refine bX12_read_85 ?_
                refine kX12_isIn (fun g21 => ?_) (fun g21 => ?_)
                · try dsimp only
                  refine ⟨fun _ => ?_, fun z => absurd (by decide) z⟩
                  refine bX12_read_132 ?_
                  refine bX12_read_133 ?_
                  first | exact H0 (by omega) | exact H1 (by omega) | exact H2 (by omega) | exact H3 (by omega) | exact H4 (by omega) | (simp only [am_t0, am_st, reduceIte, Nat.reduceEqDiff] at *; first | exact H0 (by omega) | exact H1 (by omega) | exact H2 (by omega) | exact H3 (by omega) | exact H4 (by omega) | (exfalso; omega))
                · try dsimp only
                  refine ⟨fun z => absurd z (by decide), fun _ => ?_⟩
                  refine ⟨fun g22 => ?_, fun g22 => ?_⟩
                  · refine bX12_read_109 ?_
                    refine ⟨fun g23 => ?_, fun g23 => ?_⟩
                    · refine bX12_read_121 ?_
                      refine ⟨(by first | omega | (simp only [am_tell, am_t0, am_st, reduceIte, Nat.reduceEqDiff] at *; omega)), ?_⟩
                      refine bX12_read_124 ?_
                      refine kX12_tell (by first | omega | (simp only [am_t0, am_st, reduceIte, Nat.reduceEqDiff] at *; omega)) ?_
                      try dsimp only
                      refine bX12_read_133 ?_
                      first | exact H0 (by omega) | exact H1 (by omega) | exact H2 (by omega) | exact H3 (by omega) | exact H4 (by omega) | (simp only [am_t0, am_st, reduceIte, Nat.reduceEqDiff] at *; first | exact H0 (by omega) | exact H1 (by omega) | exact H2 (by omega) | exact H3 (by omega) | exact H4 (by omega) | (exfalso; omega))
                    · refine ⟨(by first | omega | (simp only [am_tell, am_t0, am_st, reduceIte, Nat.reduceEqDiff] at *; omega)), ?_⟩
                      refine bX12_read_124 ?_
                      refine kX12_tell (by first | omega | (simp only [am_t0, am_st, reduceIte, Nat.reduceEqDiff] at *; omega)) ?_
                      try dsimp only
                      refine bX12_read_133 ?_
                      first | exact H0 (by omega) | exact H1 (by omega) | exact H2 (by omega) | exact H3 (by omega) | exact H4 (by omega) | (simp only [am_t0, am_st, reduceIte, Nat.reduceEqDiff] at *; first | exact H0 (by omega) | exact H1 (by omega) | exact H2 (by omega) | exact H3 (by omega) | exact H4 (by omega) | (exfalso; omega))
                  · refine bX12_read_124 ?_
                    refine kX12_tell (by first | omega | (simp only [am_t0, am_st, reduceIte, Nat.reduceEqDiff] at *; omega)) ?_
                    try dsimp only
                    refine bX12_read_133 ?_
                    first | exact H0 (by omega) | exact H1 (by omega) | exact H2 (by omega) | exact H3 (by omega) | exact H4 (by omega) | (simp only [am_t0, am_st, reduceIte, Nat.reduceEqDiff] at *; first | exact H0 (by omega) | exact H1 (by omega) | exact H2 (by omega) | exact H3 (by omega) | exact H4 (by omega) | (exfalso; omega))
            · refine kX12_isIn (fun g27 => ?_) (fun g27 => ?_)
              · try dsimp only
                refine ⟨fun z => absurd z (by decide), fun _ => ?_⟩
                refine bX12_read_63 ?_
                first | exact H0 (by omega) | exact H1 (by omega) | exact H2 (by omega) | exact H3 (by omega) | exact H4 (by omega) | (simp only [am_t0, am_st, reduceIte, Nat.reduceEqDiff] at *; first | exact H0 (by omega) | exact H1 (by omega) | exact H2 (by omega) | exact H3 (by omega) | exact H4 (by omega) | (exfalso; omega))
              · try dsimp only
                refine ⟨fun _ => ?_, fun z => absurd (by decide) z⟩
                refine bX12_read_65 ?_
                refine ⟨fun g28 => ?_, fun g28 => ?_⟩
                · refine bX12_read_74 ?_
                  refine ⟨fun g29 => ?_, fun g29 => ?_⟩
                  · refine bX12_read_83 ?_
                    refine bX12_read_85 ?_
                    refine kX12_isIn (fun g30 => ?_) (fun g30 => ?_)
                    · try dsimp only
                      refine ⟨fun _ => ?_, fun z => absurd (by decide) z⟩
                      refine bX12_read_132 ?_
                      refine bX12_read_133 ?_
                      first | exact H0 (by omega) | exact H1 (by omega) | exact H2 (by omega) | exact H3 (by omega) | exact H4 (by omega) | (simp only [am_t0, am_st, reduceIte, Nat.reduceEqDiff] at *; first | exact H0 (by omega) | exact H1 (by omega) | exact H2 (by omega) | exact H3 (by omega) | exact H4 (by omega) | (exfalso; omega))
                    · try dsimp only
                      refine ⟨fun z => absurd z (by decide), fun _ => ?_⟩
                      refine ⟨fun g31 => ?_, fun g31 => ?_⟩
                      · refine bX12_read_109 ?_
                        refine ⟨fun g32 => ?_, fun g32 => ?_⟩
                        · refine bX12_read_121 ?_
                          refine ⟨(by first | omega | (simp only [am_tell, am_t0, am_st, reduceIte, Nat.reduceEqDiff] at *; omega)), ?_⟩
                          refine bX12_read_124 ?_
                          refine kX12_tell (by first | omega | (simp only [am_t0, am_st, reduceIte, Nat.reduceEqDiff] at *; omega)) ?_
                          try dsimp only
                          refine bX12_read_133 ?_
                          first | exact H0 (by omega) | exact H1 (by omega) | exact H2 (by omega) | exact H3 (by omega) | exact H4 (by omega) | (simp only [am_t0, am_st, reduceIte, Nat.reduceEqDiff] at *; first | exact H0 (by omega) | exact H1 (by omega) | exact H2 (by omega) | exact H3 (by omega) | exact H4 (by omega) | (exfalso; omega))
                        · refine ⟨(by first | omega | (simp only [am_tell, am_t0, am_st, reduceIte, Nat.reduceEqDiff] at *; omega)), ?_⟩
                          refine bX12_read_124 ?_
                          refine kX12_tell (by first | omega | (simp only [am_t0, am_st, reduceIte, Nat.reduceEqDiff] at *; omega)) ?_
                          try dsimp only
                          refine bX12_read_133 ?_
                          first | exact H0 (by omega) | exact H1 (by omega) | exact H2 (by omega) | exact H3 (by omega) | exact H4 (by omega) | (simp only [am_t0, am_st, reduceIte, Nat.reduceEqDiff] at *; first | exact H0 (by omega) | exact H1 (by omega) | exact H2 (by omega) | exact H3 (by omega) | exact H4 (by omega) | (exfalso; omega))
                      · refine bX12_read_124 ?_
                        refine kX12_tell (by first | omega | (simp only [am_t0, am_st, reduceIte, Nat.reduceEqDiff] at *; omega)) ?_
                        try dsimp only
                        refine bX12_read_133 ?_
                        first | exact H0 (by omega) | exact H1 (by omega) | exact H2 (by omega) | exact H3 (by omega) | exact H4 (by omega) | (simp only [am_t0, am_st, reduceIte, Nat.reduceEqDiff] at *; first | exact H0 (by omega) | exact H1 (by omega) | exact H2 (by omega) | exact H3 (by omega) | exact H4 (by omega) | (exfalso; omega))
                  · refine bX12_read_85 ?_
                    refine kX12_isIn (fun g36 => ?_) (fun g36 => ?_)
                    · try dsimp only
                      refine ⟨fun _ => ?_, fun z => absurd (by decide) z⟩
                      refine bX12_read_132 ?_
                      refine bX12_read_133 ?_
                      first | exact H0 (by omega) | exact H1 (by omega) | exact H2 (by omega) | exact H3 (by omega) | exact H4 (by omega) | (simp only [am_t0, am_st, reduceIte, Nat.reduceEqDiff] at *; first | exact H0 (by omega) | exact H1 (by omega) | exact H2 (by omega) | exact H3 (by omega) | exact H4 (by omega) | (exfalso; omega))
                    · try dsimp only
                      refine ⟨fun z => absurd z (by decide), fun _ => ?_⟩
                      refine ⟨fun g37 => ?_, fun g37 => ?_⟩
                      · refine bX12_read_109 ?_
                        refine ⟨fun g38 => ?_, fun g38 => ?_⟩
                        · refine bX12_read_121 ?_
                          refine ⟨(by first | omega | (simp only [am_tell, am_t0, am_st, reduceIte, Nat.reduceEqDiff] at *; omega)), ?_⟩
                          refine bX12_read_124 ?_
                          refine kX12_tell (by first | omega | (simp only [am_t0, am_st, reduceIte, Nat.reduceEqDiff] at *; omega)) ?_
                          try dsimp only
                          refine bX12_read_133 ?_
                          first | exact H0 (by omega) | exact H1 (by omega) | exact H2 (by omega) | exact H3 (by omega) | exact H4 (by omega) | (simp only [am_t0, am_st, reduceIte, Nat.reduceEqDiff] at *; first | exact H0 (by omega) | exact H1 (by omega) | exact H2 (by omega) | exact H3 (by omega) | exact H4 (by omega) | (exfalso; omega))
                        · refine ⟨(by first | omega | (simp only [am_tell, am_t0, am_st, reduceIte, Nat.reduceEqDiff] at *; omega)), ?_⟩
                          refine bX12_read_124 ?_
                          refine kX12_tell (by first | omega | (simp only [am_t0, am_st, reduceIte, Nat.reduceEqDiff] at *; omega)) ?_
                          try dsimp only
                          refine bX12_read_133 ?_
                          first | exact H0 (by omega) | exact H1 (by omega) | exact H2 (by omega) | exact H3 (by omega) | exact H4 (by omega) | (simp only [am_t0, am_st, reduceIte, Nat.reduceEqDiff] at *; first | exact H0 (by omega) | exact H1 (by omega) | exact H2 (by omega) | exact H3 (by omega) | exact H4 (by omega) | (exfalso; omega))
                      · refine bX12_read_124 ?_
                        refine kX12_tell (by first | omega | (simp only [am_t0, am_st, reduceIte, Nat.reduceEqDiff] at *; omega)) ?_
                        try dsimp only
                        refine bX12_read_133 ?_
                        first | exact H0 (by omega) | exact H1 (by omega) | exact H2 (by omega) | exact H3 (by omega) | exact H4 (by omega) | (simp only [am_t0, am_st, reduceIte, Nat.reduceEqDiff] at *; first | exact H0 (by omega) | exact H1 (by omega) | exact H2 (by omega) | exact H3 (by omega) | exact H4 (by omega) | (exfalso; omega))
                · refine bX12_read_85 ?_
                  refine kX12_isIn (fun g42 => ?_) (fun g42 => ?_)
                  · try dsimp only
                    refine ⟨fun _ => ?_, fun z => absurd (by decide) z⟩
                    refine bX12_read_132 ?_
                    refine bX12_read_133 ?_
                    first | exact H0 (by omega) | exact H1 (by omega) | exact H2 (by omega) | exact H3 (by omega) | exact H4 (by omega) | (simp only [am_t0, am_st, reduceIte, Nat.reduceEqDiff] at *; first | exact H0 (by omega) | exact H1 (by omega) | exact H2 (by omega) | exact H3 (by omega) | exact H4 (by omega) | (exfalso; omega))
                  · try dsimp only
                    refine ⟨fun z => absurd z (by decide), fun _ => ?_⟩
                    refine ⟨fun g43 => ?_, fun g43 => ?_⟩
                    · refine bX12_read_109 ?_
                      refine ⟨fun g44 => ?_, fun g44 => ?_⟩
                      · refine bX12_read_121 ?_
                        refine ⟨(by first | omega | (simp only [am_tell, am_t0, am_st, reduceIte, Nat.reduceEqDiff] at *; omega)), ?_⟩
                        refine bX12_read_124 ?_
                        refine kX12_tell (by first | omega | (simp only [am_t0, am_st, reduceIte, Nat.reduceEqDiff] at *; omega)) ?_
                        try dsimp only
                        refine bX12_read_133 ?_
                        first | exact H0 (by omega) | exact H1 (by omega) | exact H2 (by omega) | exact H3 (by omega) | exact H4 (by omega) | (simp only [am_t0, am_st, reduceIte, Nat.reduceEqDiff] at *; first | exact H0 (by omega) | exact H1 (by omega) | exact H2 (by omega) | exact H3 (by omega) | exact H4 (by omega) | (exfalso; omega))
                      · refine ⟨(by first | omega | (simp only [am_tell, am_t0, am_st, reduceIte, Nat.reduceEqDiff] at *; omega)), ?_⟩
                        refine bX12_read_124 ?_
                        refine kX12_tell (by first | omega | (simp only [am_t0, am_st, reduceIte, Nat.reduceEqDiff] at *; omega)) ?_
                        try dsimp only
                        refine bX12_read_133 ?_
                        first | exact H0 (by omega) | exact H1 (by omega) | exact H2 (by omega) | exact H3 (by omega) | exact H4 (by omega) | (simp only [am_t0, am_st, reduceIte, Nat.reduceEqDiff] at *; first | exact H0 (by omega) | exact H1 (by omega) | exact H2 (by omega) | exact H3 (by omega) | exact H4 (by omega) | (exfalso; omega))
                    · refine bX12_read_124 ?_
                      refine kX12_tell (by first | omega | (simp only [am_t0, am_st, reduceIte, Nat.reduceEqDiff] at *; omega)) ?_
                      try dsimp only
                      refine bX12_read_133 ?_
                      first | exact H0 (by omega) | exact H1 (by omega) | exact H2 (by omega) | exact H3 (by omega) | exact H4 (by omega) | (simp only [am_t0, am_st, reduceIte, Nat.reduceEqDiff] at *; first | exact H0 (by omega) | exact H1 (by omega) | exact H2 (by omega) | exact H3 (by omega) | exact H4 (by omega) | (exfalso; omega))
          · refine kX12_isIn (fun g48 => ?_) (fun g48 => ?_)
            · try dsimp only
              refine ⟨fun _ => ?_, fun z => absurd (by decide) z⟩
              refine bX12_read_63 ?_
              first | exact H0 (by omega) | exact H1 (by omega) | exact H2 (by omega) | exact H3 (by omega) | exact H4 (by omega) | (simp only [am_t0, am_st, reduceIte, Nat.reduceEqDiff] at *; first | exact H0 (by omega) | exact H1 (by omega) | exact H2 (by omega) | exact H3 (by omega) | exact H4 (by omega) | (exfalso; omega))
            · try dsimp only
              refine ⟨fun z => absurd z (by decide), fun _ => ?_⟩
              refine bX12_read_48 ?_
              refine ⟨fun g49 => ?_, fun g49 => ?_⟩
              · refine bX12_read_65 ?_
                refine ⟨fun g50 => ?_, fun g50 => ?_⟩
                · refine bX12_read_74 ?_
                  refine ⟨fun g51 => ?_, fun g51 => ?_⟩
                  · refine bX12_read_83 ?_
                    refine bX12_read_85 ?_
                    refine kX12_isIn (fun g52 => ?_) (fun g52 => ?_)
                    · try dsimp only
                      refine ⟨fun _ => ?_, fun z => absurd (by decide) z⟩
                      refine bX12_read_132 ?_
                      refine bX12_read_133 ?_
                      first | exact H0 (by omega) | exact H1 (by omega) | exact H2 (by omega) | exact H3 (by omega) | exact H4 (by omega) | (simp only [am_t0, am_st, reduceIte, Nat.reduceEqDiff] at *; first | exact H0 (by omega) | exact H1 (by omega) | exact H2 (by omega) | exact H3 (by omega) | exact H4 (by omega) | (exfalso; omega))
                    · try dsimp only
                      refine ⟨fun z => absurd z (by decide), fun _ => ?_⟩
                      refine ⟨fun g53 => ?_, fun g53 => ?_⟩
                      · refine bX12_read_109 ?_
                        refine ⟨fun g54 => ?_, fun g54 => ?_⟩
                        · refine bX12_read_121 ?_
                          refine ⟨(by first | omega | (simp only [am_tell, am_t0, am_st, reduceIte, Nat.reduceEqDiff] at *; omega)), ?_⟩
                          refine bX12_read_124 ?_
                          refine kX12_tell (by first | omega | (simp only [am_t0, am_st, reduceIte, Nat.reduceEqDiff] at *; omega)) ?_
                          try dsimp only
                          refine bX12_read_133 ?_
                          first | exact H0 (by omega) | exact H1 (by omega) | exact H2 (by omega) | exact H3 (by omega) | exact H4 (by omega) | (simp only [am_t0, am_st, reduceIte, Nat.reduceEqDiff] at *; first | exact H0 (by omega) | exact H1 (by omega) | exact H2 (by omega) | exact H3 (by omega) | exact H4 (by omega) | (exfalso; omega))
                        · refine ⟨(by first | omega | (simp only [am_tell, am_t0, am_st, reduceIte, Nat.reduceEqDiff] at *; omega)), ?_⟩
                          refine bX12_read_124 ?_
                          refine kX12_tell (by first | omega | (simp only [am_t0, am_st, reduceIte, Nat.reduceEqDiff] at *; omega)) ?_
                          try dsimp only
                          refine bX12_read_133 ?_
                          first | exact H0 (by omega) | exact H1 (by omega) | exact H2 (by omega) | exact H3 (by omega) | exact H4 (by omega) | (simp only [am_t0, am_st, reduceIte, Nat.reduceEqDiff] at *; first | exact H0 (by omega) | exact H1 (by omega) | exact H2 (by omega) | exact H3 (by omega) | exact H4 (by omega) | (exfalso; omega))
                      · refine bX12_read_124 ?_
                        refine kX12_tell (by first | omega | (simp only [am_t0, am_st, reduceIte, Nat.reduceEqDiff] at *; omega)) ?_
                        try dsimp only
                        refine bX12_read_133 ?_
                        first | exact H0 (by omega) | exact H1 (by omega) | exact H2 (by omega) | exact H3 (by omega) | exact H4 (by omega) | (simp only [am_t0, am_st, reduceIte, Nat.reduceEqDiff] at *; first | exact H0 (by omega) | exact H1 (by omega) | exact H2 (by omega) | exact H3 (by omega) | exact H4 (by omega) | (exfalso; omega))
                  · refine bX12_read_85 ?_
                    refine kX12_isIn (fun g58 => ?_) (fun g58 => ?_)
                    · try dsimp only
                      refine ⟨fun _ => ?_, fun z => absurd (by decide) z⟩
                      refine bX12_read_132 ?_
                      refine bX12_read_133 ?_
                      first | exact H0 (by omega) | exact H1 (by omega) | exact H2 (by omega) | exact H3 (by omega) | exact H4 (by omega) | (simp only [am_t0, am_st, reduceIte, Nat.reduceEqDiff] at *; first | exact H0 (by omega) | exact H1 (by omega) | exact H2 (by omega) | exact H3 (by omega) | exact H4 (by omega) | (exfalso; omega))
                    · try dsimp only
                      refine ⟨fun z => absurd z (by decide), fun _ => ?_⟩
                      refine ⟨fun g59 => ?_, fun g59 => ?_⟩
                      · refine bX12_read_109 ?_
                        refine ⟨fun g60 => ?_, fun g60 => ?_⟩
                        · refine bX12_read_121 ?_
                          refine ⟨(by first | omega | (simp only [am_tell, am_t0, am_st, reduceIte, Nat.reduceEqDiff] at *; omega)), ?_⟩
                          refine bX12_read_124 ?_
                          refine kX12_tell (by first | omega | (simp only [am_t0, am_st, reduceIte, Nat.reduceEqDiff] at *; omega)) ?_
                          try dsimp only
                          refine bX12_read_133 ?_
                          first | exact H0 (by omega) | exact H1 (by omega) | exact H2 (by omega) | exact H3 (by omega) | exact H4 (by omega) | (simp only [am_t0, am_st, reduceIte, Nat.reduceEqDiff] at *; first | exact H0 (by omega) | exact H1 (by omega) | exact H2 (by omega) | exact H3 (by omega) | exact H4 (by omega) | (exfalso; omega))
                        · refine ⟨(by first | omega | (simp only [am_tell, am_t0, am_st, reduceIte, Nat.reduceEqDiff] at *; omega)), ?_⟩
                          refine bX12_read_124 ?_
                          refine kX12_tell (by first | omega | (simp only [am_t0, am_st, reduceIte, Nat.reduceEqDiff] at *; omega)) ?_
                          try dsimp only
                          refine bX12_read_133 ?_
                          first | exact H0 (by omega) | exact H1 (by omega) | exact H2 (by omega) | exact H3 (by omega) | exact H4 (by omega) | (simp only [am_t0, am_st, reduceIte, Nat.reduceEqDiff] at *; first | exact H0 (by omega) | exact H1 (by omega) | exact H2 (by omega) | exact H3 (by omega) | exact H4 (by omega) | (exfalso; omega))
                      · refine bX12_read_124 ?_
                        refine kX12_tell (by first | omega | (simp only [am_t0, am_st, reduceIte, Nat.reduceEqDiff] at *; omega)) ?_
                        try dsimp only
                        refine bX12_read_133 ?_
                        first | exact H0 (by omega) | exact H1 (by omega) | exact H2 (by omega) | exact H3 (by omega) | exact H4 (by omega) | (simp only [am_t0, am_st, reduceIte, Nat.reduceEqDiff] at *; first | exact H0 (by omega) | exact H1 (by omega) | exact H2 (by omega) | exact H3 (by omega) | exact H4 (by omega) | (exfalso; omega))
                · refine bX12_read_85 ?_
                  refine kX12_isIn (fun g64 => ?_) (fun g64 => ?_)
                  · try dsimp only
                    refine ⟨fun _ => ?_, fun z => absurd (by decide) z⟩
                    refine bX12_read_132 ?_
                    refine bX12_read_133 ?_
                    first | exact H0 (by omega) | exact H1 (by omega) | exact H2 (by omega) | exact H3 (by omega) | exact H4 (by omega) | (simp only [am_t0, am_st, reduceIte, Nat.reduceEqDiff] at *; first | exact H0 (by omega) | exact H1 (by omega) | exact H2 (by omega) | exact H3 (by omega) | exact H4 (by omega) | (exfalso; omega))
                  · try dsimp only
                    refine ⟨fun z => absurd z (by decide), fun _ => ?_⟩
                    refine ⟨fun g65 => ?_, fun g65 => ?_⟩
                    · refine bX12_read_109 ?_
                      refine ⟨fun g66 => ?_, fun g66 => ?_⟩
                      · refine bX12_read_121 ?_
                        refine ⟨(by first | omega | (simp only [am_tell, am_t0, am_st, reduceIte, Nat.reduceEqDiff] at *; omega)), ?_⟩
                        refine bX12_read_124 ?_
                        refine kX12_tell (by first | omega | (simp only [am_t0, am_st, reduceIte, Nat.reduceEqDiff] at *; omega)) ?_
                        try dsimp only
                        refine bX12_read_133 ?_
                        first | exact H0 (by omega) | exact H1 (by omega) | exact H2 (by omega) | exact H3 (by omega) | exact H4 (by omega) | (simp only [am_t0, am_st, reduceIte, Nat.reduceEqDiff] at *; first | exact H0 (by omega) | exact H1 (by omega) | exact H2 (by omega) | exact H3 (by omega) | exact H4 (by omega) | (exfalso; omega))
                      · refine ⟨(by first | omega | (simp only [am_tell, am_t0, am_st, reduceIte, Nat.reduceEqDiff] at *; omega)), ?_⟩
                        refine bX12_read_124 ?_
                        refine kX12_tell (by first | omega | (simp only [am_t0, am_st, reduceIte, Nat.reduceEqDiff] at *; omega)) ?_
                        try dsimp only
                        refine bX12_read_133 ?_
                        first | exact H0 (by omega) | exact H1 (by omega) | exact H2 (by omega) | exact H3 (by omega) | exact H4 (by omega) | (simp only [am_t0, am_st, reduceIte, Nat.reduceEqDiff] at *; first | exact H0 (by omega) | exact H1 (by omega) | exact H2 (by omega) | exact H3 (by omega) | exact H4 (by omega) | (exfalso; omega))
                    · refine bX12_read_124 ?_
                      refine kX12_tell (by first | omega | (simp only [am_t0, am_st, reduceIte, Nat.reduceEqDiff] at *; omega)) ?_
                      try dsimp only
                      refine bX12_read_133 ?_
                      first | exact H0 (by omega) | exact H1 (by omega) | exact H2 (by omega) | exact H3 (by omega) | exact H4 (by omega) | (simp only [am_t0, am_st, reduceIte, Nat.reduceEqDiff] at *; first | exact H0 (by omega) | exact H1 (by omega) | exact H2 (by omega) | exact H3 (by omega) | exact H4 (by omega) | (exfalso; omega))
              · refine kX12_isIn (fun g70 => ?_) (fun g70 => ?_)
                · try dsimp only
                  refine ⟨fun z => absurd z (by decide), fun _ => ?_⟩
                  refine bX12_read_63 ?_
                  first | exact H0 (by omega) | exact H1 (by omega) | exact H2 (by omega) | exact H3 (by omega) | exact H4 (by omega) | (simp only [am_t0, am_st, reduceIte, Nat.reduceEqDiff] at *; first | exact H0 (by omega) | exact H1 (by omega) | exact H2 (by omega) | exact H3 (by omega) | exact H4 (by omega) | (exfalso; omega))
                · try dsimp only
                  refine ⟨fun _ => ?_, fun z => absurd (by decide) z⟩
                  refine bX12_read_65 ?_
                  refine ⟨fun g71 => ?_, fun g71 => ?_⟩
                  · refine bX12_read_74 ?_
                    refine ⟨fun g72 => ?_, fun g72 => ?_⟩
                    · refine bX12_read_83 ?_
                      refine bX12_read_85 ?_
                      refine kX12_isIn (fun g73 => ?_) (fun g73 => ?_)
                      · try dsimp only
                        refine ⟨fun _ => ?_, fun z => absurd (by decide) z⟩
                        refine bX12_read_132 ?_
                        refine bX12_read_133 ?_
                        first | exact H0 (by omega) | exact H1 (by omega) | exact H2 (by omega) | exact H3 (by omega) | exact H4 (by omega) | (simp only [am_t0, am_st, reduceIte, Nat.reduceEqDiff] at *; first | exact H0 (by omega) | exact H1 (by omega) | exact H2 (by omega) | exact H3 (by omega) | exact H4 (by omega) | (exfalso; omega))
                      · try dsimp only
                        refine ⟨fun z => absurd z (by decide), fun _ => ?_⟩
                        refine ⟨fun g74 => ?_, fun g74 => ?_⟩
                        · refine bX12_read_109 ?_
                          refine ⟨fun g75 => ?_, fun g75 => ?_⟩
                          · refine bX12_read_121 ?_
                            refine ⟨(by first | omega | (simp only [am_tell, am_t0, am_st, reduceIte, Nat.reduceEqDiff] at *; omega)), ?_⟩
                            refine bX12_read_124 ?_
                            refine kX12_tell (by first | omega | (simp only [am_t0, am_st, reduceIte, Nat.reduceEqDiff] at *; omega)) ?_
                            try dsimp only
                            refine bX12_read_133 ?_
                            first | exact H0 (by omega) | exact H1 (by omega) | exact H2 (by omega) | exact H3 (by omega) | exact H4 (by omega) | (simp only [am_t0, am_st, reduceIte, Nat.reduceEqDiff] at *; first | exact H0 (by omega) | exact H1 (by omega) | exact H2 (by omega) | exact H3 (by omega) | exact H4 (by omega) | (exfalso; omega))
                          · refine ⟨(by first | omega | (simp only [am_tell, am_t0, am_st, reduceIte, Nat.reduceEqDiff] at *; omega)), ?_⟩
                            refine bX12_read_124 ?_
                            refine kX12_tell (by first | omega | (simp only [am_t0, am_st, reduceIte, Nat.reduceEqDiff] at *; omega)) ?_
                            try dsimp only
                            refine bX12_read_133 ?_
                            first | exact H0 (by omega) | exact H1 (by omega) | exact H2 (by omega) | exact H3 (by omega) | exact H4 (by omega) | (simp only [am_t0, am_st, reduceIte, Nat.reduceEqDiff] at *; first | exact H0 (by omega) | exact H1 (by omega) | exact H2 (by omega) | exact H3 (by omega) | exact H4 (by omega) | (exfalso; omega))
                        · refine bX12_read_124 ?_
                          refine kX12_tell (by first | omega | (simp only [am_t0, am_st, reduceIte, Nat.reduceEqDiff] at *; omega)) ?_
                          try dsimp only
                          refine bX12_read_133 ?_
                          first | exact H0 (by omega) | exact H1 (by omega) | exact H2 (by omega) | exact H3 (by omega) | exact H4 (by omega) | (simp only [am_t0, am_st, reduceIte, Nat.reduceEqDiff] at *; first | exact H0 (by omega) | exact H1 (by omega) | exact H2 (by omega) | exact H3 (by omega) | exact H4 (by omega) | (exfalso; omega))
                    · refine bX12_read_85 ?_
                      refine kX12_isIn (fun g79 => ?_) (fun g79 => ?_)
                      · try dsimp only
                        refine ⟨fun _ => ?_, fun z => absurd (by decide) z⟩
                        refine bX12_read_132 ?_
                        refine bX12_read_133 ?_
                        first | exact H0 (by omega) | exact H1 (by omega) | exact H2 (by omega) | exact H3 (by omega) | exact H4 (by omega) | (simp only [am_t0, am_st, reduceIte, Nat.reduceEqDiff] at *; first | exact H0 (by omega) | exact H1 (by omega) | exact H2 (by omega) | exact H3 (by omega) | exact H4 (by omega) | (exfalso; omega))
                      · try dsimp only
                        refine ⟨fun z => absurd z (by decide), fun _ => ?_⟩
                        refine ⟨fun g80 => ?_, fun g80 => ?_⟩
                        · refine bX12_read_109 ?_
                          refine ⟨fun g81 => ?_, fun g81 => ?_⟩
                          · refine bX12_read_121 ?_
                            refine ⟨(by first | omega | (simp only [am_tell, am_t0, am_st, reduceIte, Nat.reduceEqDiff] at *; omega)), ?_⟩
                            refine bX12_read_124 ?_
                            refine kX12_tell (by first | omega | (simp only [am_t0, am_st, reduceIte, Nat.reduceEqDiff] at *; omega)) ?_
                            try dsimp only
                            refine bX12_read_133 ?_
                            first | exact H0 (by omega) | exact H1 (by omega) | exact H2 (by omega) | exact H3 (by omega) | exact H4 (by omega) | (simp only [am_t0, am_st, reduceIte, Nat.reduceEqDiff] at *; first | exact H0 (by omega) | exact H1 (by omega) | exact H2 (by omega) | exact H3 (by omega) | exact H4 (by omega) | (exfalso; omega))
                          · refine ⟨(by first | omega | (simp only [am_tell, am_t0, am_st, reduceIte, Nat.reduceEqDiff] at *; omega)), ?_⟩
                            refine bX12_read_124 ?_
                            refine kX12_tell (by first | omega | (simp only [am_t0, am_st, reduceIte, Nat.reduceEqDiff] at *; omega)) ?_
                            try dsimp only
                            refine bX12_read_133 ?_
                            first | exact H0 (by omega) | exact H1 (by omega) | exact H2 (by omega) | exact H3 (by omega) | exact H4 (by omega) | (simp only [am_t0, am_st, reduceIte, Nat.reduceEqDiff] at *; first | exact H0 (by omega) | exact H1 (by omega) | exact H2 (by omega) | exact H3 (by omega) | exact H4 (by omega) | (exfalso; omega))
                        · refine bX12_read_124 ?_
                          refine kX12_tell (by first | omega | (simp only [am_t0, am_st, reduceIte, Nat.reduceEqDiff] at *; omega)) ?_
                          try dsimp only
                          refine bX12_read_133 ?_
                          first | exact H0 (by omega) | exact H1 (by omega) | exact H2 (by omega) | exact H3 (by omega) | exact H4 (by omega) | (simp only [am_t0, am_st, reduceIte, Nat.reduceEqDiff] at *; first | exact H0 (by omega) | exact H1 (by omega) | exact H2 (by omega) | exact H3 (by omega) | exact H4 (by omega) | (exfalso; omega))
                  · refine bX12_read_85 ?_
                    refine kX12_isIn (fun g85 => ?_) (fun g85 => ?_)
                    · try dsimp only
                      refine ⟨fun _ => ?_, fun z => absurd (by decide) z⟩
                      refine bX12_read_132 ?_
                      refine bX12_read_133 ?_
                      first | exact H0 (by omega) | exact H1 (by omega) | exact H2 (by omega) | exact H3 (by omega) | exact H4 (by omega) | (simp only [am_t0, am_st, reduceIte, Nat.reduceEqDiff] at *; first | exact H0 (by omega) | exact H1 (by omega) | exact H2 (by omega) | exact H3 (by omega) | exact H4 (by omega) | (exfalso; omega))
                    · try dsimp only
                      refine ⟨fun z => absurd z (by decide), fun _ => ?_⟩
                      refine ⟨fun g86 => ?_, fun g86 => ?_⟩
                      · refine bX12_read_109 ?_
                        refine ⟨fun g87 => ?_, fun g87 => ?_⟩
                        · refine bX12_read_121 ?_
                          refine ⟨(by first | omega | (simp only [am_tell, am_t0, am_st, reduceIte, Nat.reduceEqDiff] at *; omega)), ?_⟩
                          refine bX12_read_124 ?_
                          refine kX12_tell (by first | omega | (simp only [am_t0, am_st, reduceIte, Nat.reduceEqDiff] at *; omega)) ?_
                          try dsimp only
                          refine bX12_read_133 ?_
                          first | exact H0 (by omega) | exact H1 (by omega) | exact H2 (by omega) | exact H3 (by omega) | exact H4 (by omega) | (simp only [am_t0, am_st, reduceIte, Nat.reduceEqDiff] at *; first | exact H0 (by omega) | exact H1 (by omega) | exact H2 (by omega) | exact H3 (by omega) | exact H4 (by omega) | (exfalso; omega))
                        · refine ⟨(by first | omega | (simp only [am_tell, am_t0, am_st, reduceIte, Nat.reduceEqDiff] at *; omega)), ?_⟩
                          refine bX12_read_124 ?_
                          refine kX12_tell (by first | omega | (simp only [am_t0, am_st, reduceIte, Nat.reduceEqDiff] at *; omega)) ?_
                          try dsimp only
                          refine bX12_read_133 ?_
                          first | exact H0 (by omega) | exact H1 (by omega) | exact H2 (by omega) | exact H3 (by omega) | exact H4 (by omega) | (simp only [am_t0, am_st, reduceIte, Nat.reduceEqDiff] at *; first | exact H0 (by omega) | exact H1 (by omega) | exact H2 (by omega) | exact H3 (by omega) | exact H4 (by omega) | (exfalso; omega))
                      · refine bX12_read_124 ?_
                        refine kX12_tell (by first | omega | (simp only [am_t0, am_st, reduceIte, Nat.reduceEqDiff] at *; omega)) ?_
                        try dsimp only
                        refine bX12_read_133 ?_
                        first | exact H0 (by omega) | exact H1 (by omega) | exact H2 (by omega) | exact H3 (by omega) | exact H4 (by omega) | (simp only [am_t0, am_st, reduceIte, Nat.reduceEqDiff] at *; first | exact H0 (by omega) | exact H1 (by omega) | exact H2 (by omega) | exact H3 (by omega) | exact H4 (by omega) | (exfalso; omega))
def am_ft (h : am_H) (m : Int) : am_H := am_st (am_st (am_st (am_st (am_st (am_st (am_st (am_st (am_st (am_st (am_st (am_st (am_st (am_st (h) 32 (Int.toNat (m * 14)) (h 28 (Int.toNat m) / 1000)) 32 (Int.toNat (m * 14 + 1)) (h 28 (Int.toNat m) / 100 % 10)) 32 (Int.toNat (m * 14 + 2)) (h 28 (Int.toNat m) / 10 % 10)) 32 (Int.toNat (m * 14 + 3)) (h 28 (Int.toNat m) % 10)) 32 (Int.toNat (m * 14 + 4)) (h 27 (Int.toNat m))) 32 (Int.toNat (m * 14 + 5)) (h 30 (Int.toNat m))) 32 (Int.toNat (m * 14 + 6 + 0)) (am_and (h 31 (Int.toNat m) / 2 ^ Int.toNat (0)) 1)) 32 (Int.toNat (m * 14 + 6 + (0+1))) (am_and (h 31 (Int.toNat m) / 2 ^ Int.toNat (1)) 1)) 32 (Int.toNat (m * 14 + 6 + (0+1+1))) (am_and (h 31 (Int.toNat m) / 2 ^ Int.toNat (2)) 1)) 32 (Int.toNat (m * 14 + 6 + (0+1+1+1))) (am_and (h 31 (Int.toNat m) / 2 ^ Int.toNat (3)) 1)) 32 (Int.toNat (m * 14 + 6 + (0+1+1+1+1))) (am_and (h 31 (Int.toNat m) / 2 ^ Int.toNat (4)) 1)) 32 (Int.toNat (m * 14 + 6 + (0+1+1+1+1+1))) (am_and (h 31 (Int.toNat m) / 2 ^ Int.toNat (5)) 1)) 32 (Int.toNat (m * 14 + 6 + (0+1+1+1+1+1+1))) (am_and (h 31 (Int.toNat m) / 2 ^ Int.toNat (6)) 1)) 32 (Int.toNat (m * 14 + 6 + (0+1+1+1+1+1+1+1))) (am_and (h 31 (Int.toNat m) / 2 ^ Int.toNat (7)) 1)
theorem kX6_fillTraits {L : Nat} {xs : Nat → Int} {P : Nat → List am_V → am_H → am_K → Prop} {d : Nat} {h : am_H} {K : am_K} {m : Int} (hm : 0 ≤ m ∧ m < 14) (hn : 0 ≤ h 28 (Int.toNat m)) (H : K (9, 0) (am_ft h m)) : am_C true L xs P (d + 1) 67 [(2, 20), (0, m)] h K := by
  refine eX6_fillTraits ?_
  refine bX6_fillTraits_0 ?_
  refine ⟨(by first | omega | (simp only [am_st, reduceIte, Nat.reduceEqDiff]; omega)), ?_⟩
  refine ⟨(by first | omega | (simp only [am_st, reduceIte, Nat.reduceEqDiff]; omega)), ?_⟩
  refine ⟨(by first | omega | (simp only [am_st, reduceIte, Nat.reduceEqDiff]; omega)), ?_⟩
  refine ⟨(by first | omega | (simp only [am_st, reduceIte, Nat.reduceEqDiff]; omega)), ?_⟩
  refine ⟨(by first | omega | (simp only [am_st, reduceIte, Nat.reduceEqDiff]; omega)), ?_⟩
  refine ⟨(by first | omega | (simp only [am_st, reduceIte, Nat.reduceEqDiff]; omega)), ?_⟩
  refine ⟨(by first | omega | (simp only [am_st, reduceIte, Nat.reduceEqDiff]; omega)), ?_⟩
  refine ⟨(by first | omega | (simp only [am_st, reduceIte, Nat.reduceEqDiff]; omega)), ?_⟩
  refine ⟨(by first | omega | (simp only [am_st, reduceIte, Nat.reduceEqDiff]; omega)), ?_⟩
  refine ⟨(by first | omega | (simp only [am_st, reduceIte, Nat.reduceEqDiff]; omega)), ?_⟩
  refine ⟨(by first | omega | (simp only [am_st, reduceIte, Nat.reduceEqDiff]; omega)), ?_⟩
  refine ⟨(by first | omega | (simp only [am_st, reduceIte, Nat.reduceEqDiff]; omega)), ?_⟩
  refine ⟨(by first | omega | (simp only [am_st, reduceIte, Nat.reduceEqDiff]; omega)), ?_⟩
  refine ⟨(by first | omega | (simp only [am_st, reduceIte, Nat.reduceEqDiff]; omega)), ?_⟩
  refine ⟨(by first | omega | (simp only [am_st, reduceIte, Nat.reduceEqDiff]; omega)), ?_⟩
  refine ⟨(by first | omega | (simp only [am_st, reduceIte, Nat.reduceEqDiff]; omega)), ?_⟩
  refine ⟨(by first | omega | (simp only [am_st, reduceIte, Nat.reduceEqDiff]; omega)), ?_⟩
  refine ⟨(by first | omega | (simp only [am_st, reduceIte, Nat.reduceEqDiff]; omega)), ?_⟩
  refine ⟨(by first | omega | (simp only [am_st, reduceIte, Nat.reduceEqDiff]; omega)), ?_⟩
  refine ⟨(by first | omega | (simp only [am_st, reduceIte, Nat.reduceEqDiff]; omega)), ?_⟩
  refine ⟨(by first | omega | (simp only [am_st, reduceIte, Nat.reduceEqDiff]; omega)), ?_⟩
  refine ⟨(by first | omega | (simp only [am_st, reduceIte, Nat.reduceEqDiff]; omega)), ?_⟩
  refine ⟨(by first | omega | (simp only [am_st, reduceIte, Nat.reduceEqDiff]; omega)), ?_⟩
  refine ⟨(by first | omega | (simp only [am_st, reduceIte, Nat.reduceEqDiff]; omega)), ?_⟩
  refine bX6_fillTraits_108 ?_
  refine ⟨fun z => absurd z (by decide), fun _ => ?_⟩
  refine ⟨(by first | omega | (simp only [am_st, reduceIte, Nat.reduceEqDiff]; omega)), ?_⟩
  refine ⟨(by first | omega | (simp only [am_st, reduceIte, Nat.reduceEqDiff]; omega)), ?_⟩
  refine ⟨(by first | omega | (simp only [am_st, reduceIte, Nat.reduceEqDiff]; omega)), ?_⟩
  refine ⟨(by first | omega | (simp only [am_st, reduceIte, Nat.reduceEqDiff]; omega)), ?_⟩
  refine ⟨(by first | omega | (simp only [am_st, reduceIte, Nat.reduceEqDiff]; omega)), ?_⟩
  refine ⟨(by first | omega | (simp only [am_st, reduceIte, Nat.reduceEqDiff]; omega)), ?_⟩
  refine bX6_fillTraits_108 ?_
  refine ⟨fun z => absurd z (by decide), fun _ => ?_⟩
  refine ⟨(by first | omega | (simp only [am_st, reduceIte, Nat.reduceEqDiff]; omega)), ?_⟩
  refine ⟨(by first | omega | (simp only [am_st, reduceIte, Nat.reduceEqDiff]; omega)), ?_⟩
  refine ⟨(by first | omega | (simp only [am_st, reduceIte, Nat.reduceEqDiff]; omega)), ?_⟩
  refine ⟨(by first | omega | (simp only [am_st, reduceIte, Nat.reduceEqDiff]; omega)), ?_⟩
  refine ⟨(by first | omega | (simp only [am_st, reduceIte, Nat.reduceEqDiff]; omega)), ?_⟩
  refine ⟨(by first | omega | (simp only [am_st, reduceIte, Nat.reduceEqDiff]; omega)), ?_⟩
  refine bX6_fillTraits_108 ?_
  refine ⟨fun z => absurd z (by decide), fun _ => ?_⟩
  refine ⟨(by first | omega | (simp only [am_st, reduceIte, Nat.reduceEqDiff]; omega)), ?_⟩
  refine ⟨(by first | omega | (simp only [am_st, reduceIte, Nat.reduceEqDiff]; omega)), ?_⟩
  refine ⟨(by first | omega | (simp only [am_st, reduceIte, Nat.reduceEqDiff]; omega)), ?_⟩
  refine ⟨(by first | omega | (simp only [am_st, reduceIte, Nat.reduceEqDiff]; omega)), ?_⟩
  refine ⟨(by first | omega | (simp only [am_st, reduceIte, Nat.reduceEqDiff]; omega)), ?_⟩
  refine ⟨(by first | omega | (simp only [am_st, reduceIte, Nat.reduceEqDiff]; omega)), ?_⟩
  refine bX6_fillTraits_108 ?_
  refine ⟨fun z => absurd z (by decide), fun _ => ?_⟩
  refine ⟨(by first | omega | (simp only [am_st, reduceIte, Nat.reduceEqDiff]; omega)), ?_⟩
  refine ⟨(by first | omega | (simp only [am_st, reduceIte, Nat.reduceEqDiff]; omega)), ?_⟩
  refine ⟨(by first | omega | (simp only [am_st, reduceIte, Nat.reduceEqDiff]; omega)), ?_⟩
  refine ⟨(by first | omega | (simp only [am_st, reduceIte, Nat.reduceEqDiff]; omega)), ?_⟩
  refine ⟨(by first | omega | (simp only [am_st, reduceIte, Nat.reduceEqDiff]; omega)), ?_⟩
  refine ⟨(by first | omega | (simp only [am_st, reduceIte, Nat.reduceEqDiff]; omega)), ?_⟩
  refine bX6_fillTraits_108 ?_
  refine ⟨fun z => absurd z (by decide), fun _ => ?_⟩
  refine ⟨(by first | omega | (simp only [am_st, reduceIte, Nat.reduceEqDiff]; omega)), ?_⟩
  refine ⟨(by first | omega | (simp only [am_st, reduceIte, Nat.reduceEqDiff]; omega)), ?_⟩
  refine ⟨(by first | omega | (simp only [am_st, reduceIte, Nat.reduceEqDiff]; omega)), ?_⟩
  refine ⟨(by first | omega | (simp only [am_st, reduceIte, Nat.reduceEqDiff]; omega)), ?_⟩
  refine ⟨(by first | omega | (simp only [am_st, reduceIte, Nat.reduceEqDiff]; omega)), ?_⟩
  refine ⟨(by first | omega | (simp only [am_st, reduceIte, Nat.reduceEqDiff]; omega)), ?_⟩
  refine bX6_fillTraits_108 ?_
  refine ⟨fun z => absurd z (by decide), fun _ => ?_⟩
  refine ⟨(by first | omega | (simp only [am_st, reduceIte, Nat.reduceEqDiff]; omega)), ?_⟩
  refine ⟨(by first | omega | (simp only [am_st, reduceIte, Nat.reduceEqDiff]; omega)), ?_⟩
  refine ⟨(by first | omega | (simp only [am_st, reduceIte, Nat.reduceEqDiff]; omega)), ?_⟩
  refine ⟨(by first | omega | (simp only [am_st, reduceIte, Nat.reduceEqDiff]; omega)), ?_⟩
  refine ⟨(by first | omega | (simp only [am_st, reduceIte, Nat.reduceEqDiff]; omega)), ?_⟩
  refine ⟨(by first | omega | (simp only [am_st, reduceIte, Nat.reduceEqDiff]; omega)), ?_⟩
  refine bX6_fillTraits_108 ?_
  refine ⟨fun z => absurd z (by decide), fun _ => ?_⟩
  refine ⟨(by first | omega | (simp only [am_st, reduceIte, Nat.reduceEqDiff]; omega)), ?_⟩
  refine ⟨(by first | omega | (simp only [am_st, reduceIte, Nat.reduceEqDiff]; omega)), ?_⟩
  refine ⟨(by first | omega | (simp only [am_st, reduceIte, Nat.reduceEqDiff]; omega)), ?_⟩
  refine ⟨(by first | omega | (simp only [am_st, reduceIte, Nat.reduceEqDiff]; omega)), ?_⟩
  refine ⟨(by first | omega | (simp only [am_st, reduceIte, Nat.reduceEqDiff]; omega)), ?_⟩
  refine ⟨(by first | omega | (simp only [am_st, reduceIte, Nat.reduceEqDiff]; omega)), ?_⟩
  refine bX6_fillTraits_108 ?_
  refine ⟨fun z => absurd z (by decide), fun _ => ?_⟩
  refine ⟨(by first | omega | (simp only [am_st, reduceIte, Nat.reduceEqDiff]; omega)), ?_⟩
  refine ⟨(by first | omega | (simp only [am_st, reduceIte, Nat.reduceEqDiff]; omega)), ?_⟩
  refine ⟨(by first | omega | (simp only [am_st, reduceIte, Nat.reduceEqDiff]; omega)), ?_⟩
  refine ⟨(by first | omega | (simp only [am_st, reduceIte, Nat.reduceEqDiff]; omega)), ?_⟩
  refine ⟨(by first | omega | (simp only [am_st, reduceIte, Nat.reduceEqDiff]; omega)), ?_⟩
  refine ⟨(by first | omega | (simp only [am_st, reduceIte, Nat.reduceEqDiff]; omega)), ?_⟩
  refine bX6_fillTraits_108 ?_
  refine ⟨fun _ => ?_, fun z => absurd (by decide) z⟩
  refine bX6_fillTraits_141 ?_
  exact H
def am_mn (h : am_H) (u n y b t : Int) : am_H := am_st (am_st (am_st (am_st (am_st h 27 (Int.toNat (h 20 15)) u) 28 (Int.toNat (h 20 15)) n) 29 (Int.toNat (h 20 15)) y) 30 (Int.toNat (h 20 15)) b) 31 (Int.toNat (h 20 15)) t
theorem kX6_addMan {L : Nat} {xs : Nat → Int} {P : Nat → List am_V → am_H → am_K → Prop} {d : Nat} {h : am_H} {K : am_K} {u n y b t : Int} (hn : 0 ≤ h 20 15 ∧ h 20 15 ≤ 14) (hk : 0 ≤ n) (H0 : h 20 15 = 14 → K (0, -1) h) (H1 : ¬ h 20 15 = 14 → K (0, h 20 15 + 1 - 1) (am_st (am_ft (am_mn h u n y b t) (h 20 15)) 20 15 (h 20 15 + 1))) : am_C true L xs P (d + 2) 66 [(2, 20), (0, u), (0, n), (0, y), (0, b), (0, t)] h K := by
  refine eX6_addMan ?_
  refine bX6_addMan_0 ?_
  refine ⟨fun g1 => ?_, fun g1 => ?_⟩
  · refine bX6_addMan_11 ?_
    refine ⟨(by first | omega | (simp only [am_ft, am_st, reduceIte, Nat.reduceEqDiff]; omega)), ?_⟩
    refine ⟨(by first | omega | (simp only [am_ft, am_st, reduceIte, Nat.reduceEqDiff]; omega)), ?_⟩
    refine ⟨(by first | omega | (simp only [am_ft, am_st, reduceIte, Nat.reduceEqDiff]; omega)), ?_⟩
    refine ⟨(by first | omega | (simp only [am_ft, am_st, reduceIte, Nat.reduceEqDiff]; omega)), ?_⟩
    refine ⟨(by first | omega | (simp only [am_ft, am_st, reduceIte, Nat.reduceEqDiff]; omega)), ?_⟩
    refine kX6_fillTraits (by omega) (by first | omega | (simp [am_st]; omega)) ?_
    try dsimp only
    refine ⟨(by first | omega | (simp only [am_ft, am_st, reduceIte, Nat.reduceEqDiff]; omega)), ?_⟩
    refine ⟨(by first | omega | (simp only [am_ft, am_st, reduceIte, Nat.reduceEqDiff]; omega)), ?_⟩
    first | exact H0 (by omega) | exact H1 (by omega) | (exfalso; (try dsimp only at *); omega)
  · first | exact H0 (by omega) | exact H1 (by omega) | (exfalso; (try dsimp only at *); omega)
theorem kX11_man {L : Nat} {xs : Nat → Int} {P : Nat → List am_V → am_H → am_K → Prop} {d : Nat} {h : am_H} {K : am_K} {u n y b t : Int} (hn : 0 ≤ h 20 15 ∧ h 20 15 ≤ 14) (H0 : (0 ≤ u ∧ u ≤ 5) ∧ (0 ≤ n ∧ n ≤ 9999) ∧ (0 ≤ y ∧ y ≤ 999) ∧ (0 ≤ b ∧ b ≤ 9) ∧ (0 ≤ t ∧ t ≤ 255) ∧ ¬ h 20 15 = 14 → K (0, h 20 15 + 1 - 1) (am_st (am_ft (am_mn h u n y b t) (h 20 15)) 20 15 (h 20 15 + 1))) (H1 : ¬ ((0 ≤ u ∧ u ≤ 5) ∧ (0 ≤ n ∧ n ≤ 9999) ∧ (0 ≤ y ∧ y ≤ 999) ∧ (0 ≤ b ∧ b ≤ 9) ∧ (0 ≤ t ∧ t ≤ 255) ∧ ¬ h 20 15 = 14) → K (0, -1) h) : am_C true L xs P (d + 3) 109 [(2, 1), (0, u), (0, n), (0, y), (0, b), (0, t)] h K := by
  refine eX11_man ?_
  refine bX11_man_0 ?_
  refine kX11_isUnit (fun g1 => ?_) (fun g1 => ?_)
  · try dsimp only
    refine ⟨fun _ => ?_, fun z => absurd (by decide) z⟩
    refine bX11_man_48 ?_
    first | exact H0 (by omega) | exact H1 (by omega) | (exfalso; (try dsimp only at *); omega)
  · try dsimp only
    refine ⟨fun z => absurd z (by decide), fun _ => ?_⟩
    refine kX11_within (fun g2 => ?_) (fun g2 => ?_)
    · try dsimp only
      refine ⟨fun _ => ?_, fun z => absurd (by decide) z⟩
      refine bX11_man_48 ?_
      first | exact H0 (by omega) | exact H1 (by omega) | (exfalso; (try dsimp only at *); omega)
    · try dsimp only
      refine ⟨fun z => absurd z (by decide), fun _ => ?_⟩
      refine kX11_isDay (fun g3 => ?_) (fun g3 => ?_)
      · try dsimp only
        refine ⟨fun _ => ?_, fun z => absurd (by decide) z⟩
        refine bX11_man_48 ?_
        first | exact H0 (by omega) | exact H1 (by omega) | (exfalso; (try dsimp only at *); omega)
      · try dsimp only
        refine ⟨fun z => absurd z (by decide), fun _ => ?_⟩
        refine kX11_within (fun g4 => ?_) (fun g4 => ?_)
        · try dsimp only
          refine ⟨fun _ => ?_, fun z => absurd (by decide) z⟩
          refine bX11_man_48 ?_
          first | exact H0 (by omega) | exact H1 (by omega) | (exfalso; (try dsimp only at *); omega)
        · try dsimp only
          refine ⟨fun z => absurd z (by decide), fun _ => ?_⟩
          refine kX11_within (fun g5 => ?_) (fun g5 => ?_)
          · try dsimp only
            refine ⟨fun z => absurd z (by decide), fun _ => ?_⟩
            refine bX11_man_48 ?_
            first | exact H0 (by omega) | exact H1 (by omega) | (exfalso; (try dsimp only at *); omega)
          · try dsimp only
            refine ⟨fun _ => ?_, fun z => absurd (by decide) z⟩
            refine bX11_man_50 ?_
            refine kX6_addMan (by omega) (by omega) (fun g6 => ?_) (fun g6 => ?_)
            · try dsimp only
              first | exact H0 (by omega) | exact H1 (by omega) | (exfalso; (try dsimp only at *); omega)
            · try dsimp only
              first | exact H0 (by omega) | exact H1 (by omega) | (exfalso; (try dsimp only at *); omega)
