/-! the yard: sums over seasons and sets -/
/-- KIN of a field from season s on, n seasons -/
def y_see (g : Nat → Int) (f : Int) : Nat → Int → Int → Int
  | 0, _, acc => acc
  | n + 1, s, acc => y_see g f n (s + 1) (acc + g (Int.toNat (f * 21 + s)))
def y_sees (g : Nat → Int) (f s : Int) : Int := y_see g f (Int.toNat (21 - s)) s 0
theorem y_see_in {g : Nat → Int} {f : Int} (hg : ∀ j, j < 168 → 0 ≤ g j ∧ g j ≤ 99) (hf : 0 ≤ f ∧ f < 8) : ∀ (n : Nat) (s acc : Int), 0 ≤ s → s + n ≤ 21 → 0 ≤ acc → acc ≤ y_see g f n s acc ∧ y_see g f n s acc ≤ acc + 99 * n := by
  intro n
  induction n with
  | zero => intro s acc h1 h2 h3; simp [y_see]
  | succ n ih =>
    intro s acc h1 h2 h3
    have h4 := hg (Int.toNat (f * 21 + s)) (by omega)
    have h5 := ih (s + 1) (acc + g (Int.toNat (f * 21 + s))) (by omega) (by omega) (by omega)
    simp only [y_see]
    omega
theorem y_sees_in {g : Nat → Int} {f s : Int} (hg : ∀ j, j < 168 → 0 ≤ g j ∧ g j ≤ 99) (hf : 0 ≤ f ∧ f < 8) (hs : 0 ≤ s) : 0 ≤ y_sees g f s ∧ y_sees g f s ≤ 2079 := by
  unfold y_sees
  by_cases h : s ≤ 21
  · have := y_see_in hg hf (Int.toNat (21 - s)) s 0 hs (by omega) (by omega)
    omega
  · rw [show Int.toNat (21 - s) = 0 by omega]
    simp [y_see]
/-- STONES of a set, from field i on, n fields -/
def y_st (g : Nat → Int) (s : Int) : Nat → Nat → Int → Int
  | 0, _, acc => acc
  | n + 1, i, acc => y_st g s n (i + 1) (acc + (if s / 2 ^ i % 2 = 1 then g i else 0))
theorem y_st_in {g : Nat → Int} {s : Int} (hg : ∀ j, j < 8 → 0 ≤ g j ∧ g j ≤ 999) : ∀ (n i : Nat) (acc : Int), i + n ≤ 8 → 0 ≤ acc → acc ≤ y_st g s n i acc ∧ y_st g s n i acc ≤ acc + 999 * n := by
  intro n
  induction n with
  | zero => intro i acc h1 h2; simp [y_st]
  | succ n ih =>
    intro i acc h1 h2
    have h4 := hg i (by omega)
    simp only [y_st]
    split
    · have h5 := ih (i + 1) (acc + g i) (by omega) (by omega)
      omega
    · have h5 := ih (i + 1) (acc + 0) (by omega) (by omega)
      omega
/-- what the yard's rows hold -/
def am_okY (h : am_H) : Prop := (0 ≤ h 55 3 ∧ h 55 3 ≤ 8) ∧ (1 ≤ h 55 4 ∧ h 55 4 ≤ 999) ∧ (∀ j, j < 8 → 0 ≤ h 56 j ∧ h 56 j ≤ 999) ∧ (∀ j, j < 168 → 0 ≤ h 57 j ∧ h 57 j ≤ 99) ∧ (∀ j : Nat, (j : Int) < h 55 3 → 1 ≤ h 56 j)
def am_okZ (h : am_H) : Prop := (0 ≤ h 59 19 ∧ h 59 19 ≤ 8) ∧ (1 ≤ h 59 22 ∧ h 59 22 ≤ 999) ∧ (∀ j, j < 8 → 0 ≤ h 69 j ∧ h 69 j ≤ 999) ∧ (∀ j, j < 168 → 0 ≤ h 70 j ∧ h 70 j ≤ 99) ∧ (∀ j : Nat, (j : Int) < h 59 19 → 1 ≤ h 69 j)
theorem lX10_seeing_16 {lim : Int} {L : Nat} {xs : Nat → Int} {P : Nat → List am_V → am_H → am_K → Prop} {d : Nat} {K : am_K} {h : am_H} {f b : Int} (hY : am_okY h) (hf : 0 ≤ f ∧ f < 8) : ∀ (n : Nat) (s acc : Int), 0 ≤ s → n = Int.toNat (21 - s) → 0 ≤ acc ∧ acc + 99 * n ≤ 5000 → K (0, y_see (h 57) f n s acc) h → tX10_seeing lim L xs (am_C true L xs P d) K 16 [(2, 55), (0, f), (0, b), (0, acc), (0, s)] [] h := by
  intro n
  induction n with
  | zero =>
    intro s acc h0 hn ha H
    refine bX10_seeing_16 ?_
    try simp only [Int.toNat_natCast]
    refine ⟨fun g1 => ?_, fun g1 => ?_⟩
    · exact bX10_seeing_44 H
    · refine ⟨(by first | omega | (refine ⟨by omega, by omega, by omega, am_p2 (by omega) (by omega)⟩) | (simp [am_st]; omega)), ?_⟩
      refine ⟨(by first | omega | (refine ⟨by omega, by omega, by omega, am_p2 (by omega) (by omega)⟩) | (simp [am_st]; omega)), ?_⟩
      refine ⟨(by first | omega | (refine ⟨by omega, by omega, by omega, am_p2 (by omega) (by omega)⟩) | (simp [am_st]; omega)), ?_⟩
      refine ⟨(by first | omega | (refine ⟨by omega, by omega, by omega, am_p2 (by omega) (by omega)⟩) | (simp [am_st]; omega)), ?_⟩
      refine ⟨(by first | omega | (refine ⟨by omega, by omega, by omega, am_p2 (by omega) (by omega)⟩) | (simp [am_st]; omega)), ?_⟩
      (exfalso; omega)
  | succ n ih =>
    intro s acc h0 hn ha H
    have h4 := hY.2.2.2.1 (Int.toNat (f * 21 + s)) (by omega)
    refine bX10_seeing_16 ?_
    try simp only [Int.toNat_natCast]
    refine ⟨fun g1 => ?_, fun g1 => ?_⟩
    · (exfalso; omega)
    · refine ⟨(by first | omega | (refine ⟨by omega, by omega, by omega, am_p2 (by omega) (by omega)⟩) | (simp [am_st]; omega)), ?_⟩
      refine ⟨(by first | omega | (refine ⟨by omega, by omega, by omega, am_p2 (by omega) (by omega)⟩) | (simp [am_st]; omega)), ?_⟩
      refine ⟨(by first | omega | (refine ⟨by omega, by omega, by omega, am_p2 (by omega) (by omega)⟩) | (simp [am_st]; omega)), ?_⟩
      refine ⟨(by first | omega | (refine ⟨by omega, by omega, by omega, am_p2 (by omega) (by omega)⟩) | (simp [am_st]; omega)), ?_⟩
      refine ⟨(by first | omega | (refine ⟨by omega, by omega, by omega, am_p2 (by omega) (by omega)⟩) | (simp [am_st]; omega)), ?_⟩
      exact ih _ _ (by omega) (by omega) (by omega) H
theorem kX10_seeing {L : Nat} {xs : Nat → Int} {P : Nat → List am_V → am_H → am_K → Prop} {d : Nat} {h : am_H} {K : am_K} {f b : Int} (hY : am_okY h) (hf : 0 ≤ f ∧ f < 8) (hf2 : 1 ≤ h 56 (Int.toNat f)) (hb : 0 ≤ b ∧ b ≤ 10000) (H : K (0, y_sees (h 57) f ((b + h 56 (Int.toNat f) - 1) / h 55 4)) h) : am_C true L xs P (d + 2) 94 [(2, 55), (0, f), (0, b)] h K := by
  have h1 := hY.2.2.1 (Int.toNat f) (by omega)
  have h2 := hY.2.1
  refine eX10_seeing (bX10_seeing_0 ⟨by omega, by omega, ?_⟩)
  refine kX10_seasonOf (by omega) (by omega) ?_
  have h3 : 0 ≤ (b + h 56 (Int.toNat f) - 1) / h 55 4 := Int.ediv_nonneg (by omega) (by omega)
  exact lX10_seeing_16 hY hf _ _ 0 h3 rfl (by omega) H
theorem lX12_see_12 {lim : Int} {L : Nat} {xs : Nat → Int} {P : Nat → List am_V → am_H → am_K → Prop} {d : Nat} {K : am_K} {h : am_H} {f b : Int} (hY : am_okZ h) (hf : 0 ≤ f ∧ f < 8) : ∀ (n : Nat) (s acc : Int), 0 ≤ s → n = Int.toNat (21 - s) → 0 ≤ acc ∧ acc + 99 * n ≤ 5000 → K (0, y_see (h 70) f n s acc) h → tX12_see lim L xs (am_C true L xs P d) K 12 [(2, 59), (0, f), (0, b), (0, acc), (0, s)] [] h := by
  intro n
  induction n with
  | zero =>
    intro s acc h0 hn ha H
    have e1 : 21 * f + s = f * 21 + s := by omega
    refine bX12_see_12 ?_
    rw [e1]
    refine ⟨fun g1 => ?_, fun g1 => ?_⟩
    · exact bX12_see_40 H
    · refine ⟨(by first | omega | (refine ⟨by omega, by omega, by omega, am_p2 (by omega) (by omega)⟩) | (simp [am_st]; omega)), ?_⟩
      refine ⟨(by first | omega | (refine ⟨by omega, by omega, by omega, am_p2 (by omega) (by omega)⟩) | (simp [am_st]; omega)), ?_⟩
      refine ⟨(by first | omega | (refine ⟨by omega, by omega, by omega, am_p2 (by omega) (by omega)⟩) | (simp [am_st]; omega)), ?_⟩
      refine ⟨(by first | omega | (refine ⟨by omega, by omega, by omega, am_p2 (by omega) (by omega)⟩) | (simp [am_st]; omega)), ?_⟩
      refine ⟨(by first | omega | (refine ⟨by omega, by omega, by omega, am_p2 (by omega) (by omega)⟩) | (simp [am_st]; omega)), ?_⟩
      (exfalso; omega)
  | succ n ih =>
    intro s acc h0 hn ha H
    have e1 : 21 * f + s = f * 21 + s := by omega
    have h4 := hY.2.2.2.1 (Int.toNat (f * 21 + s)) (by omega)
    refine bX12_see_12 ?_
    rw [e1]
    refine ⟨fun g1 => ?_, fun g1 => ?_⟩
    · (exfalso; omega)
    · refine ⟨(by first | omega | (refine ⟨by omega, by omega, by omega, am_p2 (by omega) (by omega)⟩) | (simp [am_st]; omega)), ?_⟩
      refine ⟨(by first | omega | (refine ⟨by omega, by omega, by omega, am_p2 (by omega) (by omega)⟩) | (simp [am_st]; omega)), ?_⟩
      refine ⟨(by first | omega | (refine ⟨by omega, by omega, by omega, am_p2 (by omega) (by omega)⟩) | (simp [am_st]; omega)), ?_⟩
      refine ⟨(by first | omega | (refine ⟨by omega, by omega, by omega, am_p2 (by omega) (by omega)⟩) | (simp [am_st]; omega)), ?_⟩
      refine ⟨(by first | omega | (refine ⟨by omega, by omega, by omega, am_p2 (by omega) (by omega)⟩) | (simp [am_st]; omega)), ?_⟩
      exact ih _ _ (by omega) (by omega) (by omega) H
theorem kX12_see {L : Nat} {xs : Nat → Int} {P : Nat → List am_V → am_H → am_K → Prop} {d : Nat} {h : am_H} {K : am_K} {f b : Int} (hY : am_okZ h) (hf : 0 ≤ f ∧ f < 8) (hb : 1 ≤ b ∧ b ≤ 20000) (H : K (0, y_sees (h 70) f ((b - 1) / h 59 22)) h) : am_C true L xs P (d + 1) 211 [(2, 59), (0, f), (0, b)] h K := by
  have h2 := hY.2.1
  refine eX12_see (bX12_see_0 ⟨by omega, by omega, ?_⟩)
  have h3 : 0 ≤ (b - 1) / h 59 22 := Int.ediv_nonneg (by omega) (by omega)
  exact lX12_see_12 hY hf _ _ 0 h3 rfl (by omega) H
theorem lX10_stonesOf_4 {lim : Int} {L : Nat} {xs : Nat → Int} {P : Nat → List am_V → am_H → am_K → Prop} {d : Nat} {K : am_K} {h : am_H} {s : Int} (hY : am_okY h) : ∀ (n : Nat) (i : Nat) (acc : Int), (i : Int) + n = h 55 3 → 0 ≤ acc ∧ acc + 999 * n ≤ 10000 → K (0, y_st (h 56) s n i acc) h → tX10_stonesOf lim L xs (am_C true L xs P (d + 1)) K 4 [(2, 55), (0, s), (0, acc), (0, (i : Int))] [] h := by
  intro n
  induction n with
  | zero =>
    intro i acc hi ha H
    have h1 := hY.1
    refine bX10_stonesOf_4 ?_
    try simp only [Int.toNat_natCast]
    refine ⟨fun g1 => ?_, fun g1 => ?_⟩
    · exact bX10_stonesOf_39 H
    · refine kX11_hasBit (by omega) (fun g2 => ?_) (fun g2 => ?_)
      · try dsimp only
        refine ⟨fun _ => ?_, fun z => absurd (by decide) z⟩
        refine bX10_stonesOf_30 ?_
        refine bX10_stonesOf_31 ?_
        refine ⟨(by first | omega | (refine ⟨by omega, by omega, by omega, am_p2 (by omega) (by omega)⟩) | (simp [am_st]; omega)), ?_⟩
        refine ⟨(by first | omega | (refine ⟨by omega, by omega, by omega, am_p2 (by omega) (by omega)⟩) | (simp [am_st]; omega)), ?_⟩
        (exfalso; omega)
      · try dsimp only
        refine ⟨fun z => absurd z (by decide), fun _ => ?_⟩
        refine ⟨(by first | omega | (refine ⟨by omega, by omega, by omega, am_p2 (by omega) (by omega)⟩) | (simp [am_st]; omega)), ?_⟩
        refine bX10_stonesOf_31 ?_
        refine ⟨(by first | omega | (refine ⟨by omega, by omega, by omega, am_p2 (by omega) (by omega)⟩) | (simp [am_st]; omega)), ?_⟩
        refine ⟨(by first | omega | (refine ⟨by omega, by omega, by omega, am_p2 (by omega) (by omega)⟩) | (simp [am_st]; omega)), ?_⟩
        (exfalso; omega)
  | succ n ih =>
    intro i acc hi ha H
    have h1 := hY.1
    have h4 := hY.2.2.1 i (by omega)
    have e1 := am_bit_iff s i
    rw [Int.toNat_natCast] at e1
    refine bX10_stonesOf_4 ?_
    try simp only [Int.toNat_natCast]
    refine ⟨fun g1 => ?_, fun g1 => ?_⟩
    · (exfalso; omega)
    · refine kX11_hasBit (by omega) (fun g2 => ?_) (fun g2 => ?_)
      · try dsimp only
        refine ⟨fun _ => ?_, fun z => absurd (by decide) z⟩
        refine bX10_stonesOf_30 ?_
        refine bX10_stonesOf_31 ?_
        refine ⟨(by first | omega | (refine ⟨by omega, by omega, by omega, am_p2 (by omega) (by omega)⟩) | (simp [am_st]; omega)), ?_⟩
        refine ⟨(by first | omega | (refine ⟨by omega, by omega, by omega, am_p2 (by omega) (by omega)⟩) | (simp [am_st]; omega)), ?_⟩
        exact ih (i + 1) _ (by omega) (by omega) (by first | (rw [y_st, if_pos (e1.mp g2)] at H; exact H) | (rw [y_st, if_neg (fun z => g2 (e1.mpr z))] at H; exact H))
      · try dsimp only
        refine ⟨fun z => absurd z (by decide), fun _ => ?_⟩
        refine ⟨(by first | omega | (refine ⟨by omega, by omega, by omega, am_p2 (by omega) (by omega)⟩) | (simp [am_st]; omega)), ?_⟩
        refine bX10_stonesOf_31 ?_
        refine ⟨(by first | omega | (refine ⟨by omega, by omega, by omega, am_p2 (by omega) (by omega)⟩) | (simp [am_st]; omega)), ?_⟩
        refine ⟨(by first | omega | (refine ⟨by omega, by omega, by omega, am_p2 (by omega) (by omega)⟩) | (simp [am_st]; omega)), ?_⟩
        exact ih (i + 1) _ (by omega) (by omega) (by first | (rw [y_st, if_pos (e1.mp g2)] at H; exact H) | (rw [y_st, if_neg (fun z => g2 (e1.mpr z))] at H; exact H))
theorem kX10_stonesOf {L : Nat} {xs : Nat → Int} {P : Nat → List am_V → am_H → am_K → Prop} {d : Nat} {h : am_H} {K : am_K} {s : Int} (hY : am_okY h) (H : K (0, y_st (h 56) s (Int.toNat (h 55 3)) 0 0) h) : am_C true L xs P (d + 2) 93 [(2, 55), (0, s)] h K := by
  have h1 := hY.1
  refine eX10_stonesOf (bX10_stonesOf_0 ?_)
  exact lX10_stonesOf_4 hY _ 0 0 (by omega) (by omega) H
theorem lX12_stonesOf_4 {lim : Int} {L : Nat} {xs : Nat → Int} {P : Nat → List am_V → am_H → am_K → Prop} {d : Nat} {K : am_K} {h : am_H} {s : Int} (hY : am_okZ h) : ∀ (n : Nat) (i : Nat) (acc : Int), (i : Int) + n = h 59 19 → 0 ≤ acc ∧ acc + 999 * n ≤ 10000 → K (0, y_st (h 69) s n i acc) h → tX12_stonesOf lim L xs (am_C true L xs P d) K 4 [(2, 59), (0, s), (0, acc), (0, (i : Int))] [] h := by
  intro n
  induction n with
  | zero =>
    intro i acc hi ha H
    have h1 := hY.1
    refine bX12_stonesOf_4 ?_
    simp only [Int.toNat_natCast, am_and1]
    refine ⟨fun g1 => ?_, fun g1 => ?_⟩
    · exact bX12_stonesOf_33 H
    · refine ⟨(by first | omega | (rcases e2 with e2 | e2 <;> rw [e2] <;> omega)), ?_⟩
      refine ⟨(by first | omega | (rcases e2 with e2 | e2 <;> rw [e2] <;> omega)), ?_⟩
      refine ⟨(by first | omega | (rcases e2 with e2 | e2 <;> rw [e2] <;> omega)), ?_⟩
      refine ⟨(by first | omega | (rcases e2 with e2 | e2 <;> rw [e2] <;> omega)), ?_⟩
      refine ⟨(by first | omega | (rcases e2 with e2 | e2 <;> rw [e2] <;> omega)), ?_⟩
      (exfalso; omega)
  | succ n ih =>
    intro i acc hi ha H
    have h1 := hY.1
    have h4 := hY.2.2.1 i (by omega)
    have e1 := am_and1 (s / 2 ^ i)
    have e2 : s / 2 ^ i % 2 = 0 ∨ s / 2 ^ i % 2 = 1 := by omega
    refine bX12_stonesOf_4 ?_
    simp only [Int.toNat_natCast, am_and1]
    refine ⟨fun g1 => ?_, fun g1 => ?_⟩
    · (exfalso; omega)
    · refine ⟨(by first | omega | (rcases e2 with e2 | e2 <;> rw [e2] <;> omega)), ?_⟩
      refine ⟨(by first | omega | (rcases e2 with e2 | e2 <;> rw [e2] <;> omega)), ?_⟩
      refine ⟨(by first | omega | (rcases e2 with e2 | e2 <;> rw [e2] <;> omega)), ?_⟩
      refine ⟨(by first | omega | (rcases e2 with e2 | e2 <;> rw [e2] <;> omega)), ?_⟩
      refine ⟨(by first | omega | (rcases e2 with e2 | e2 <;> rw [e2] <;> omega)), ?_⟩
      (rcases e2 with e2 | e2 <;> first | (rw [e2, Int.zero_mul]; exact ih (i + 1) _ (by omega) (by omega) (by rw [y_st, if_neg (by rw [e2]; decide)] at H; exact H)) | (rw [e2, Int.one_mul]; exact ih (i + 1) _ (by omega) (by omega) (by rw [y_st, if_pos e2] at H; exact H)))
theorem kX12_stonesOf {L : Nat} {xs : Nat → Int} {P : Nat → List am_V → am_H → am_K → Prop} {d : Nat} {h : am_H} {K : am_K} {s : Int} (hY : am_okZ h) (H : K (0, y_st (h 69) s (Int.toNat (h 59 19)) 0 0) h) : am_C true L xs P (d + 1) 212 [(2, 59), (0, s)] h K := by
  have h1 := hY.1
  refine eX12_stonesOf (bX12_stonesOf_0 ?_)
  exact lX12_stonesOf_4 hY _ 0 0 (by omega) (by omega) H
