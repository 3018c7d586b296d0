/-! leaves -/
theorem am_p2 {k : Int} (h0 : 0 ≤ k) (h1 : k ≤ 30) : am_inI (1 * 2 ^ Int.toNat k) := by
  obtain ⟨n, rfl⟩ := Int.eq_ofNat_of_zero_le h0
  have h3 : ∀ n : Fin 31, am_inI (1 * 2 ^ n.val) := by decide
  exact h3 ⟨n, by omega⟩
theorem kX11_within {L : Nat} {xs : Nat → Int} {P : Nat → List am_V → am_H → am_K → Prop} {d : Nat} {h : am_H} {K : am_K} {v lo hi : Int} (H0 : ¬ (lo ≤ v ∧ v ≤ hi) → K (0, 0) h) (H1 : lo ≤ v ∧ v ≤ hi → K (0, 1) h) : am_C true L xs P (d + 1) 132 [(0, v), (0, lo), (0, hi)] h K := by
  refine eX11_within ?_
  refine bX11_within_0 ?_
  refine ⟨fun g1 => ?_, fun g1 => ?_⟩
  · refine bX11_within_14 ?_
    refine bX11_within_15 ?_
    refine ⟨(by first | omega | (refine ⟨by omega, by omega, by omega, am_p2 (by omega) (by omega)⟩) | (simp [am_st]; omega)), ?_⟩
    first | exact H0 (by omega) | exact H1 (by omega)
  · refine ⟨fun g2 => ?_, fun g2 => ?_⟩
    · refine bX11_within_14 ?_
      refine bX11_within_15 ?_
      refine ⟨(by first | omega | (refine ⟨by omega, by omega, by omega, am_p2 (by omega) (by omega)⟩) | (simp [am_st]; omega)), ?_⟩
      first | exact H0 (by omega) | exact H1 (by omega)
    · refine bX11_within_15 ?_
      refine ⟨(by first | omega | (refine ⟨by omega, by omega, by omega, am_p2 (by omega) (by omega)⟩) | (simp [am_st]; omega)), ?_⟩
      first | exact H0 (by omega) | exact H1 (by omega)
theorem kX11_isUnit {L : Nat} {xs : Nat → Int} {P : Nat → List am_V → am_H → am_K → Prop} {d : Nat} {h : am_H} {K : am_K} {v : Int} (H0 : ¬ (0 ≤ v ∧ v ≤ 5) → K (0, 0) h) (H1 : 0 ≤ v ∧ v ≤ 5 → K (0, 1) h) : am_C true L xs P (d + 2) 133 [(0, v)] h K := by
  refine eX11_isUnit ?_
  refine bX11_isUnit_0 ?_
  refine kX11_within (fun g1 => ?_) (fun g1 => ?_)
  · try dsimp only
    refine ⟨(by first | omega | (refine ⟨by omega, by omega, by omega, am_p2 (by omega) (by omega)⟩) | (simp [am_st]; omega)), ?_⟩
    first | exact H0 (by omega) | exact H1 (by omega)
  · try dsimp only
    refine ⟨(by first | omega | (refine ⟨by omega, by omega, by omega, am_p2 (by omega) (by omega)⟩) | (simp [am_st]; omega)), ?_⟩
    first | exact H0 (by omega) | exact H1 (by omega)
theorem kX11_isDay {L : Nat} {xs : Nat → Int} {P : Nat → List am_V → am_H → am_K → Prop} {d : Nat} {h : am_H} {K : am_K} {v : Int} (H0 : ¬ (0 ≤ v ∧ v ≤ 999) → K (0, 0) h) (H1 : 0 ≤ v ∧ v ≤ 999 → K (0, 1) h) : am_C true L xs P (d + 2) 134 [(0, v)] h K := by
  refine eX11_isDay ?_
  refine bX11_isDay_0 ?_
  refine kX11_within (fun g1 => ?_) (fun g1 => ?_)
  · try dsimp only
    refine ⟨(by first | omega | (refine ⟨by omega, by omega, by omega, am_p2 (by omega) (by omega)⟩) | (simp [am_st]; omega)), ?_⟩
    first | exact H0 (by omega) | exact H1 (by omega)
  · try dsimp only
    refine ⟨(by first | omega | (refine ⟨by omega, by omega, by omega, am_p2 (by omega) (by omega)⟩) | (simp [am_st]; omega)), ?_⟩
    first | exact H0 (by omega) | exact H1 (by omega)
/-- bit k of x -/
def am_bit (x k : Int) : Prop := am_and (x / 2 ^ Int.toNat k) 1 = 1
theorem kX11_hasBit {L : Nat} {xs : Nat → Int} {P : Nat → List am_V → am_H → am_K → Prop} {d : Nat} {h : am_H} {K : am_K} {x k : Int} (hk : 0 ≤ k ∧ k ≤ 31) (H0 : ¬ (am_bit x k) → K (0, 0) h) (H1 : am_bit x k → K (0, 1) h) : am_C true L xs P (d + 1) 135 [(0, x), (0, k)] h K := by
  refine eX11_hasBit ?_
  refine bX11_hasBit_0 ?_
  refine ⟨(by first | exact hk | omega), ?_⟩
  refine ⟨fun g1 => ?_, fun g1 => ?_⟩
  · refine bX11_hasBit_13 ?_
    refine bX11_hasBit_14 ?_
    refine ⟨(by first | exact hk | omega), ?_⟩
    first | exact H0 (fun z => by first | exact g1 z | exact absurd z g1) | exact H1 (by first | exact g1 | exact Classical.byContradiction g1)
  · refine bX11_hasBit_14 ?_
    refine ⟨(by first | exact hk | omega), ?_⟩
    first | exact H0 (fun z => by first | exact g1 z | exact absurd z g1) | exact H1 (by first | exact g1 | exact Classical.byContradiction g1)
theorem kX8_hasRoom {L : Nat} {xs : Nat → Int} {P : Nat → List am_V → am_H → am_K → Prop} {d : Nat} {h : am_H} {K : am_K} {n : Int} (hn : 0 ≤ h 2 1 ∧ h 2 1 ≤ 400 ∧ 0 ≤ n ∧ n ≤ 400) (H0 : ¬ (h 2 1 + n ≤ 400) → K (0, 0) h) (H1 : h 2 1 + n ≤ 400 → K (0, 1) h) : am_C true L xs P (d + 1) 80 [(2, 2), (0, n)] h K := by
  refine eX8_hasRoom ?_
  refine bX8_hasRoom_0 ?_
  refine ⟨(by first | omega | (refine ⟨by omega, by omega, by omega, am_p2 (by omega) (by omega)⟩) | (simp [am_st]; omega)), ?_⟩
  refine ⟨fun g1 => ?_, fun g1 => ?_⟩
  · refine bX8_hasRoom_16 ?_
    refine bX8_hasRoom_17 ?_
    refine ⟨(by first | omega | (refine ⟨by omega, by omega, by omega, am_p2 (by omega) (by omega)⟩) | (simp [am_st]; omega)), ?_⟩
    first | exact H0 (by omega) | exact H1 (by omega)
  · refine bX8_hasRoom_17 ?_
    refine ⟨(by first | omega | (refine ⟨by omega, by omega, by omega, am_p2 (by omega) (by omega)⟩) | (simp [am_st]; omega)), ?_⟩
    first | exact H0 (by omega) | exact H1 (by omega)
theorem kX8_holds {L : Nat} {xs : Nat → Int} {P : Nat → List am_V → am_H → am_K → Prop} {d : Nat} {h : am_H} {K : am_K} {n : Int} (H0 : ¬ (0 ≤ n ∧ n ≤ h 2 1) → K (0, 0) h) (H1 : 0 ≤ n ∧ n ≤ h 2 1 → K (0, 1) h) : am_C true L xs P (d + 1) 81 [(2, 2), (0, n)] h K := by
  refine eX8_holds ?_
  refine bX8_holds_0 ?_
  refine ⟨fun g1 => ?_, fun g1 => ?_⟩
  · refine bX8_holds_16 ?_
    refine bX8_holds_17 ?_
    refine ⟨(by first | omega | (refine ⟨by omega, by omega, by omega, am_p2 (by omega) (by omega)⟩) | (simp [am_st]; omega)), ?_⟩
    first | exact H0 (by omega) | exact H1 (by omega)
  · refine ⟨fun g2 => ?_, fun g2 => ?_⟩
    · refine bX8_holds_16 ?_
      refine bX8_holds_17 ?_
      refine ⟨(by first | omega | (refine ⟨by omega, by omega, by omega, am_p2 (by omega) (by omega)⟩) | (simp [am_st]; omega)), ?_⟩
      first | exact H0 (by omega) | exact H1 (by omega)
    · refine bX8_holds_17 ?_
      refine ⟨(by first | omega | (refine ⟨by omega, by omega, by omega, am_p2 (by omega) (by omega)⟩) | (simp [am_st]; omega)), ?_⟩
      first | exact H0 (by omega) | exact H1 (by omega)
theorem kX5_hasBody {L : Nat} {xs : Nat → Int} {P : Nat → List am_V → am_H → am_K → Prop} {d : Nat} {h : am_H} {K : am_K} {b : Int} (H0 : ¬ (0 ≤ b ∧ b < h 34 5) → K (0, 0) h) (H1 : 0 ≤ b ∧ b < h 34 5 → K (0, 1) h) : am_C true L xs P (d + 1) 58 [(2, 34), (0, b)] h K := by
  refine eX5_hasBody ?_
  refine bX5_hasBody_0 ?_
  refine ⟨fun g1 => ?_, fun g1 => ?_⟩
  · refine bX5_hasBody_16 ?_
    refine bX5_hasBody_17 ?_
    refine ⟨(by first | omega | (refine ⟨by omega, by omega, by omega, am_p2 (by omega) (by omega)⟩) | (simp [am_st]; omega)), ?_⟩
    first | exact H0 (by omega) | exact H1 (by omega)
  · refine ⟨fun g2 => ?_, fun g2 => ?_⟩
    · refine bX5_hasBody_16 ?_
      refine bX5_hasBody_17 ?_
      refine ⟨(by first | omega | (refine ⟨by omega, by omega, by omega, am_p2 (by omega) (by omega)⟩) | (simp [am_st]; omega)), ?_⟩
      first | exact H0 (by omega) | exact H1 (by omega)
    · refine bX5_hasBody_17 ?_
      refine ⟨(by first | omega | (refine ⟨by omega, by omega, by omega, am_p2 (by omega) (by omega)⟩) | (simp [am_st]; omega)), ?_⟩
      first | exact H0 (by omega) | exact H1 (by omega)
theorem kX6_hasCell {L : Nat} {xs : Nat → Int} {P : Nat → List am_V → am_H → am_K → Prop} {d : Nat} {h : am_H} {K : am_K} {c : Int} (H0 : ¬ (0 ≤ c ∧ c < h 20 13) → K (0, 0) h) (H1 : 0 ≤ c ∧ c < h 20 13 → K (0, 1) h) : am_C true L xs P (d + 1) 63 [(2, 20), (0, c)] h K := by
  refine eX6_hasCell ?_
  refine bX6_hasCell_0 ?_
  refine ⟨fun g1 => ?_, fun g1 => ?_⟩
  · refine bX6_hasCell_16 ?_
    refine bX6_hasCell_17 ?_
    refine ⟨(by first | omega | (refine ⟨by omega, by omega, by omega, am_p2 (by omega) (by omega)⟩) | (simp [am_st]; omega)), ?_⟩
    first | exact H0 (by omega) | exact H1 (by omega)
  · refine ⟨fun g2 => ?_, fun g2 => ?_⟩
    · refine bX6_hasCell_16 ?_
      refine bX6_hasCell_17 ?_
      refine ⟨(by first | omega | (refine ⟨by omega, by omega, by omega, am_p2 (by omega) (by omega)⟩) | (simp [am_st]; omega)), ?_⟩
      first | exact H0 (by omega) | exact H1 (by omega)
    · refine bX6_hasCell_17 ?_
      refine ⟨(by first | omega | (refine ⟨by omega, by omega, by omega, am_p2 (by omega) (by omega)⟩) | (simp [am_st]; omega)), ?_⟩
      first | exact H0 (by omega) | exact H1 (by omega)
theorem kX6_hasMan {L : Nat} {xs : Nat → Int} {P : Nat → List am_V → am_H → am_K → Prop} {d : Nat} {h : am_H} {K : am_K} {c : Int} (H0 : ¬ (0 ≤ c ∧ c < h 20 15) → K (0, 0) h) (H1 : 0 ≤ c ∧ c < h 20 15 → K (0, 1) h) : am_C true L xs P (d + 1) 64 [(2, 20), (0, c)] h K := by
  refine eX6_hasMan ?_
  refine bX6_hasMan_0 ?_
  refine ⟨fun g1 => ?_, fun g1 => ?_⟩
  · refine bX6_hasMan_16 ?_
    refine bX6_hasMan_17 ?_
    refine ⟨(by first | omega | (refine ⟨by omega, by omega, by omega, am_p2 (by omega) (by omega)⟩) | (simp [am_st]; omega)), ?_⟩
    first | exact H0 (by omega) | exact H1 (by omega)
  · refine ⟨fun g2 => ?_, fun g2 => ?_⟩
    · refine bX6_hasMan_16 ?_
      refine bX6_hasMan_17 ?_
      refine ⟨(by first | omega | (refine ⟨by omega, by omega, by omega, am_p2 (by omega) (by omega)⟩) | (simp [am_st]; omega)), ?_⟩
      first | exact H0 (by omega) | exact H1 (by omega)
    · refine bX6_hasMan_17 ?_
      refine ⟨(by first | omega | (refine ⟨by omega, by omega, by omega, am_p2 (by omega) (by omega)⟩) | (simp [am_st]; omega)), ?_⟩
      first | exact H0 (by omega) | exact H1 (by omega)
theorem kX10_hasField {L : Nat} {xs : Nat → Int} {P : Nat → List am_V → am_H → am_K → Prop} {d : Nat} {h : am_H} {K : am_K} {c : Int} (H0 : ¬ (0 ≤ c ∧ c < h 55 3) → K (0, 0) h) (H1 : 0 ≤ c ∧ c < h 55 3 → K (0, 1) h) : am_C true L xs P (d + 1) 89 [(2, 55), (0, c)] h K := by
  refine eX10_hasField ?_
  refine bX10_hasField_0 ?_
  refine ⟨fun g1 => ?_, fun g1 => ?_⟩
  · refine bX10_hasField_16 ?_
    refine bX10_hasField_17 ?_
    refine ⟨(by first | omega | (refine ⟨by omega, by omega, by omega, am_p2 (by omega) (by omega)⟩) | (simp [am_st]; omega)), ?_⟩
    first | exact H0 (by omega) | exact H1 (by omega)
  · refine ⟨fun g2 => ?_, fun g2 => ?_⟩
    · refine bX10_hasField_16 ?_
      refine bX10_hasField_17 ?_
      refine ⟨(by first | omega | (refine ⟨by omega, by omega, by omega, am_p2 (by omega) (by omega)⟩) | (simp [am_st]; omega)), ?_⟩
      first | exact H0 (by omega) | exact H1 (by omega)
    · refine bX10_hasField_17 ?_
      refine ⟨(by first | omega | (refine ⟨by omega, by omega, by omega, am_p2 (by omega) (by omega)⟩) | (simp [am_st]; omega)), ?_⟩
      first | exact H0 (by omega) | exact H1 (by omega)
theorem kX12_isIn {L : Nat} {xs : Nat → Int} {P : Nat → List am_V → am_H → am_K → Prop} {d : Nat} {h : am_H} {K : am_K} {v lo hi : Int} (H0 : ¬ (lo ≤ v ∧ v ≤ hi) → K (0, 0) h) (H1 : lo ≤ v ∧ v ≤ hi → K (0, 1) h) : am_C true L xs P (d + 1) 147 [(0, v), (0, lo), (0, hi)] h K := by
  refine eX12_isIn ?_
  refine bX12_isIn_0 ?_
  refine ⟨fun g1 => ?_, fun g1 => ?_⟩
  · refine bX12_isIn_14 ?_
    refine bX12_isIn_15 ?_
    refine ⟨(by first | omega | (refine ⟨by omega, by omega, by omega, am_p2 (by omega) (by omega)⟩) | (simp [am_st]; omega)), ?_⟩
    first | exact H0 (by omega) | exact H1 (by omega)
  · refine ⟨fun g2 => ?_, fun g2 => ?_⟩
    · refine bX12_isIn_14 ?_
      refine bX12_isIn_15 ?_
      refine ⟨(by first | omega | (refine ⟨by omega, by omega, by omega, am_p2 (by omega) (by omega)⟩) | (simp [am_st]; omega)), ?_⟩
      first | exact H0 (by omega) | exact H1 (by omega)
    · refine bX12_isIn_15 ?_
      refine ⟨(by first | omega | (refine ⟨by omega, by omega, by omega, am_p2 (by omega) (by omega)⟩) | (simp [am_st]; omega)), ?_⟩
      first | exact H0 (by omega) | exact H1 (by omega)
theorem kX12_isKnowing {L : Nat} {xs : Nat → Int} {P : Nat → List am_V → am_H → am_K → Prop} {d : Nat} {h : am_H} {K : am_K} {n : Int} (H0 : ¬ (0 ≤ n ∧ n ≤ h 59 11) → K (0, 0) h) (H1 : 0 ≤ n ∧ n ≤ h 59 11 → K (0, 1) h) : am_C true L xs P (d + 1) 185 [(2, 59), (0, n)] h K := by
  refine eX12_isKnowing ?_
  refine bX12_isKnowing_0 ?_
  refine ⟨fun g1 => ?_, fun g1 => ?_⟩
  · refine bX12_isKnowing_16 ?_
    refine bX12_isKnowing_17 ?_
    refine ⟨(by first | omega | (refine ⟨by omega, by omega, by omega, am_p2 (by omega) (by omega)⟩) | (simp [am_st]; omega)), ?_⟩
    first | exact H0 (by omega) | exact H1 (by omega)
  · refine ⟨fun g2 => ?_, fun g2 => ?_⟩
    · refine bX12_isKnowing_16 ?_
      refine bX12_isKnowing_17 ?_
      refine ⟨(by first | omega | (refine ⟨by omega, by omega, by omega, am_p2 (by omega) (by omega)⟩) | (simp [am_st]; omega)), ?_⟩
      first | exact H0 (by omega) | exact H1 (by omega)
    · refine bX12_isKnowing_17 ?_
      refine ⟨(by first | omega | (refine ⟨by omega, by omega, by omega, am_p2 (by omega) (by omega)⟩) | (simp [am_st]; omega)), ?_⟩
      first | exact H0 (by omega) | exact H1 (by omega)
