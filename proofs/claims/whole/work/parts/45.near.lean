/-! loops: NEAR -/
/-- NEAR by the stands from i on, n of them, best so far acc -/
def am_nr (h : am_H) (m c : Int) : Nat → Nat → Int → Int
  | 0, _, acc => acc
  | n + 1, i, acc => am_nr h m c n (i + 1) (if h 23 i = h 27 (Int.toNat m) ∧ (h 25 i ≤ h 29 (Int.toNat m) ∧ h 29 (Int.toNat m) ≤ h 26 i) then (if acc = -1 ∨ am_fr h (h 24 i) c < acc then am_fr h (h 24 i) c else acc) else acc)
/-- what the roll's rows hold -/
def am_okR (h : am_H) : Prop := (0 ≤ h 20 14 ∧ h 20 14 ≤ 20) ∧ (0 ≤ h 20 15 ∧ h 20 15 ≤ 14) ∧ (∀ j : Nat, j < 25 → (0 ≤ h 21 j ∧ h 21 j ≤ 4) ∧ (0 ≤ h 22 j ∧ h 22 j ≤ 4)) ∧ (∀ j : Nat, j < 20 → (0 ≤ h 24 j ∧ h 24 j < 25))
set_option maxHeartbeats 1000000 in
theorem lX6_nearest_5 {lim : Int} {L : Nat} {xs : Nat → Int} {P : Nat → List am_V → am_H → am_K → Prop} {d : Nat} {K : am_K} {h : am_H} {m c : Int} (hR : am_okR h) (hm : 0 ≤ m ∧ m < 14) (hc : 0 ≤ c ∧ c < 25) : ∀ (n i : Nat) (acc : Int) (v : am_V), (i : Int) + n = h 20 14 → K (0, am_nr h m c n i acc) h → tX6_nearest lim L xs (am_C true L xs P (d + 2)) K 5 [(2, 20), (0, m), (0, c), (0, acc), (0, (i : Int)), v] [] h := by
  intro n
  induction n with
  | zero =>
    intro i acc v hi H
    refine bX6_nearest_5 ⟨fun g1 => bX6_nearest_90 H, fun g1 => (by exfalso; have := hi; omega)⟩
  | succ n ih =>
    intro i acc v hi H
    have h1 := hR.1
    have h2 := hR.2.2.2 i (by omega)
    refine bX6_nearest_5 ?_
    simp only [Int.toNat_natCast]
    refine ⟨fun g1 => ?_, fun g1 => ?_⟩
    · (exfalso; omega)
    · refine ⟨(by first | omega | (refine ⟨by omega, by omega, by omega, am_p2 (by omega) (by omega)⟩) | (simp [am_st]; omega)), ?_⟩
      refine ⟨(by first | omega | (refine ⟨by omega, by omega, by omega, am_p2 (by omega) (by omega)⟩) | (simp [am_st]; omega)), ?_⟩
      refine ⟨fun g2 => ?_, fun g2 => ?_⟩
      · refine bX6_nearest_84 ?_
        refine ⟨(by first | omega | (refine ⟨by omega, by omega, by omega, am_p2 (by omega) (by omega)⟩) | (simp [am_st]; omega)), ?_⟩
        exact ih (i + 1) _ _ (by omega) (by unfold am_nr at H; first | (rw [if_neg (by omega)] at H; exact H) | (rw [if_pos (by omega), if_pos (by omega)] at H; exact H) | (rw [if_pos (by omega), if_neg (by omega)] at H; exact H))
      · refine ⟨(by first | omega | (refine ⟨by omega, by omega, by omega, am_p2 (by omega) (by omega)⟩) | (simp [am_st]; omega)), ?_⟩
        refine ⟨(by first | omega | (refine ⟨by omega, by omega, by omega, am_p2 (by omega) (by omega)⟩) | (simp [am_st]; omega)), ?_⟩
        refine ⟨(by first | omega | (refine ⟨by omega, by omega, by omega, am_p2 (by omega) (by omega)⟩) | (simp [am_st]; omega)), ?_⟩
        refine kX11_within (fun g3 => ?_) (fun g3 => ?_)
        · try dsimp only
          refine ⟨fun _ => ?_, fun z => absurd (by decide) z⟩
          refine bX6_nearest_84 ?_
          refine ⟨(by first | omega | (refine ⟨by omega, by omega, by omega, am_p2 (by omega) (by omega)⟩) | (simp [am_st]; omega)), ?_⟩
          exact ih (i + 1) _ _ (by omega) (by unfold am_nr at H; first | (rw [if_neg (by omega)] at H; exact H) | (rw [if_pos (by omega), if_pos (by omega)] at H; exact H) | (rw [if_pos (by omega), if_neg (by omega)] at H; exact H))
        · try dsimp only
          refine ⟨fun z => absurd z (by decide), fun _ => ?_⟩
          refine ⟨(by first | omega | (refine ⟨by omega, by omega, by omega, am_p2 (by omega) (by omega)⟩) | (simp [am_st]; omega)), ?_⟩
          refine kX6_far (by omega) (by omega) ((hR.2.2.1 _ (by omega)).1) ((hR.2.2.1 _ (by omega)).1) ((hR.2.2.1 _ (by omega)).2) ((hR.2.2.1 _ (by omega)).2) ?_
          try dsimp only
          refine ⟨fun g5 => ?_, fun g5 => ?_⟩
          · refine bX6_nearest_81 ?_
            refine bX6_nearest_84 ?_
            refine ⟨(by first | omega | (refine ⟨by omega, by omega, by omega, am_p2 (by omega) (by omega)⟩) | (simp [am_st]; omega)), ?_⟩
            exact ih (i + 1) _ _ (by omega) (by unfold am_nr at H; first | (rw [if_neg (by omega)] at H; exact H) | (rw [if_pos (by omega), if_pos (by omega)] at H; exact H) | (rw [if_pos (by omega), if_neg (by omega)] at H; exact H))
          · refine ⟨fun g6 => ?_, fun g6 => ?_⟩
            · refine bX6_nearest_84 ?_
              refine ⟨(by first | omega | (refine ⟨by omega, by omega, by omega, am_p2 (by omega) (by omega)⟩) | (simp [am_st]; omega)), ?_⟩
              exact ih (i + 1) _ _ (by omega) (by unfold am_nr at H; first | (rw [if_neg (by omega)] at H; exact H) | (rw [if_pos (by omega), if_pos (by omega)] at H; exact H) | (rw [if_pos (by omega), if_neg (by omega)] at H; exact H))
            · refine bX6_nearest_81 ?_
              refine bX6_nearest_84 ?_
              refine ⟨(by first | omega | (refine ⟨by omega, by omega, by omega, am_p2 (by omega) (by omega)⟩) | (simp [am_st]; omega)), ?_⟩
              exact ih (i + 1) _ _ (by omega) (by unfold am_nr at H; first | (rw [if_neg (by omega)] at H; exact H) | (rw [if_pos (by omega), if_pos (by omega)] at H; exact H) | (rw [if_pos (by omega), if_neg (by omega)] at H; exact H))
theorem kX6_nearest {L : Nat} {xs : Nat → Int} {P : Nat → List am_V → am_H → am_K → Prop} {d : Nat} {h : am_H} {K : am_K} {m c : Int} (hR : am_okR h) (hm : 0 ≤ m ∧ m < 14) (hc : 0 ≤ c ∧ c < 25) (H : K (0, am_nr h m c (Int.toNat (h 20 14)) 0 (-1)) h) : am_C true L xs P (d + 3) 69 [(2, 20), (0, m), (0, c)] h K := by
  refine eX6_nearest (bX6_nearest_0 ?_)
  exact lX6_nearest_5 hR hm hc (Int.toNat (h 20 14)) 0 (-1) _ (by have := hR.1; omega) H
