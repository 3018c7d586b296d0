/-! the class's namings: loose, giving, who, named -/
theorem kX4_looseBodies {L : Nat} {xs : Nat → Int} {P : Nat → List am_V → am_H → am_K → Prop} {d : Nat} {h : am_H} {K : am_K} (H : ∀ r : Int, (∀ y, bt r y = true ↔ ∃ b, b < 10 ∧ h 49 b = -1 ∧ Ch h b y) → K (0, r) h) : am_C true L xs P (d + 1) 49 [(2, 44)] h K := by
  refine eX4_looseBodies (bX4_looseBodies_0 ?_)
  refine upto (σ := Int) (N := 10) (I := fun i r => ∀ y, bt r y = true ↔ ∃ b, b < i ∧ h 49 b = -1 ∧ Ch h b y) (G := fun i r => tX4_looseBodies (h 0 0 + (0 : Nat)) L xs (am_C true L xs P d) K 4 [(2, 44), (0, r), (0, (i : Int))] [] h) ?_ ?_ 10 0 0 (by omega) ?_
  · intro i r hi e1 ih
    refine bX4_looseBodies_4 ⟨fun z => by omega, fun _ => ⟨by omega, ⟨fun gz => ?_, fun gz => ⟨by omega, ?_⟩⟩⟩⟩
    · rw [Int.toNat_natCast] at gz
      refine bX4_looseBodies_29 ⟨by omega, ih r (fun y => ?_)⟩
      rw [e1]
      refine ⟨fun ⟨b, z1, z2⟩ => ⟨b, by omega, z2⟩, fun ⟨b, z1, z2⟩ => ⟨b, ?_, z2⟩⟩
      have : ¬ b = i := fun e => gz (e ▸ z2.1)
      omega
    · rw [Int.toNat_natCast] at gz
      simp only [Int.toNat_natCast]
      refine bX4_looseBodies_29 ⟨by omega, ih _ (fun y => ?_)⟩
      rw [bt_or, Bool.or_eq_true, e1]
      constructor
      · rintro (⟨b, z1, z2⟩ | z)
        · exact ⟨b, by omega, z2⟩
        · exact ⟨i, by omega, Classical.not_not.mp gz, z⟩
      · rintro ⟨b, z1, z2⟩
        by_cases hbi : b = i
        · subst hbi; exact Or.inr z2.2
        · exact Or.inl ⟨b, by omega, z2⟩
  · intro r e1
    exact bX4_looseBodies_4 ⟨fun _ => bX4_looseBodies_35 (H r e1), fun z => by omega⟩
  · intro y; rw [bt_0]; exact ⟨fun z => absurd z (by decide), fun ⟨b, z, _⟩ => by omega⟩
theorem kX4_givingBodies {L : Nat} {xs : Nat → Int} {P : Nat → List am_V → am_H → am_K → Prop} {d : Nat} {h : am_H} {K : am_K} {nm : Nat} (hnm : nm ≤ 14) (hch : ∀ x y, x < 10 → 10 ≤ y → ¬ Ch h x y) (H : ∀ r : Int, (∀ y, y < 10 → (bt r y = true ↔ Giving (Ey h) 10 nm (h 50) (Ch h) y)) → K (0, r) h) : am_C true L xs P (d + 2) 50 [(2, 44), (0, (nm : Int))] h K := by
  refine eX4_givingBodies (bX4_givingBodies_0 ?_)
  refine upto (σ := Int × am_V) (N := 10) (I := fun i s => ∀ y, bt s.1 y = true ↔ y < i ∧ ∃ m, m < nm ∧ h 50 m = -1 ∧ Ey h y m) (G := fun i s => tX4_givingBodies (h 0 0 + (0 : Nat)) L xs (am_C true L xs P (d + 1)) K 7 [(2, 44), (0, (nm : Int)), (0, s.1), (0, 0), (0, (i : Int)), s.2] [] h) ?_ ?_ 10 0 (0, (9, 0)) (by omega) ?_
  · intro i ⟨t, v⟩ hi e1 ih
    refine bX4_givingBodies_7 ⟨fun z => by omega, fun _ => ?_⟩
    refine upto (σ := Int) (N := nm) (I := fun k t => ∀ y, bt t y = true ↔ (y < i ∧ ∃ m, m < nm ∧ h 50 m = -1 ∧ Ey h y m) ∨ (y = i ∧ ∃ m, m < k ∧ h 50 m = -1 ∧ Ey h y m)) (G := fun k t => tX4_givingBodies (h 0 0 + (0 : Nat)) L xs (am_C true L xs P (d + 1)) K 17 [(2, 44), (0, (nm : Int)), (0, t), (0, 0), (0, (i : Int)), (0, (k : Int))] [] h) ?_ ?_ nm 0 t (by omega) ?_
    · intro k t hk e2 ihk
      have same : ∀ t', t' = t → (¬ (h 50 k = -1 ∧ Ey h i k)) → tX4_givingBodies (h 0 0 + (0 : Nat)) L xs (am_C true L xs P (d + 1)) K 56 [(2, 44), (0, (nm : Int)), (0, t'), (0, 0), (0, (i : Int)), (0, (k : Int))] [] h := by
        intro t' et hn
        subst et
        refine bX4_givingBodies_56 ⟨by omega, ihk _ (fun y => ?_)⟩
        rw [e2]
        refine or_congr_right (and_congr_right (fun hy => ⟨fun ⟨m, z1, z2⟩ => ⟨m, by omega, z2⟩, fun ⟨m, z1, z2⟩ => ⟨m, ?_, z2⟩⟩))
        have : ¬ m = k := fun e => hn (by subst e; subst hy; exact z2)
        omega
      refine bX4_givingBodies_17 ⟨fun z => by omega, fun _ => ⟨by omega, ⟨fun gz => same t rfl (fun z => ?_), fun gz => ⟨by omega, kBit (d := d) (by omega) (fun gb => ⟨fun _ => same t rfl (fun z => ?_), fun z => absurd rfl z⟩) (fun gb => ⟨fun z => absurd z (by decide), fun _ => ⟨⟨by omega, by omega, by omega, am_p2 (by omega) (by omega)⟩, ?_⟩⟩)⟩⟩⟩⟩
      · rw [Int.toNat_natCast] at gz; exact gz z.1
      · have := z.2
        unfold Ey at this
        rw [Int.toNat_natCast] at gb
        rw [gb] at this; exact absurd this (by decide)
      · simp only [Int.toNat_natCast] at gz gb ⊢
        refine bX4_givingBodies_56 ⟨by omega, ihk _ (fun y => ?_)⟩
        rw [bt_or, Bool.or_eq_true, e2, bt_p2' y (by omega), decide_eq_true_eq]
        constructor
        · rintro ((z | z) | z)
          · exact Or.inl z
          · obtain ⟨z0, m, z1, z2⟩ := z
            exact Or.inr ⟨z0, m, by omega, z2⟩
          · subst z; exact Or.inr ⟨rfl, k, by omega, Classical.not_not.mp gz, gb⟩
        · rintro (z | z)
          · exact Or.inl (Or.inl z)
          · exact Or.inr z.1
    · intro t e2
      refine bX4_givingBodies_17 ⟨fun _ => bX4_givingBodies_62 ⟨by omega, ih (t, (0, (nm : Int))) (fun y => ?_)⟩, fun z => by omega⟩
      show bt t y = true ↔ _
      rw [e2]
      constructor
      · rintro (z | ⟨z, w⟩)
        · exact ⟨by omega, z.2⟩
        · exact ⟨by omega, w⟩
      · intro z
        by_cases hyi : y = i
        · exact Or.inr ⟨hyi, z.2⟩
        · exact Or.inl ⟨by omega, z.2⟩
    · intro y
      have := e1 y
      rw [this]
      exact ⟨Or.inl, fun z => z.elim id (fun ⟨_, m, z, _⟩ => by omega)⟩
  · intro ⟨t, v⟩ e1
    refine bX4_givingBodies_7 ⟨fun _ => bX4_givingBodies_68 ?_, fun z => by omega⟩
    refine upto (σ := Int) (N := 10) (I := fun i r => ∀ y, bt r y = true ↔ y < i ∧ Giving (Ey h) 10 nm (h 50) (Ch h) y) (G := fun i r => tX4_givingBodies (h 0 0 + (0 : Nat)) L xs (am_C true L xs P (d + 1)) K 71 [(2, 44), (0, (nm : Int)), (0, t), (0, r), (0, (i : Int)), v] [] h) ?_ ?_ 10 0 0 (by omega) ?_
    · intro i r hi e2 ih
      have key : am_and (h 51 i) t = 0 ↔ ¬ Giving (Ey h) 10 nm (h 50) (Ch h) i := by
        rw [bt_and0]
        constructor
        · rintro z ⟨y, hy, hc, m, hm, h1, h2⟩
          exact z y (by omega) ⟨hc, (e1 y).mpr ⟨hy, m, hm, h1, h2⟩⟩
        · intro z y hy ⟨h1, h2⟩
          obtain ⟨h3, m, h4, h5, h6⟩ := (e1 y).mp h2
          exact z ⟨y, h3, h1, m, h4, h5, h6⟩
      refine bX4_givingBodies_71 ⟨fun z => by omega, fun _ => ⟨by omega, ⟨fun gz => ?_, fun gz => ⟨⟨by omega, by omega, by omega, am_p2 (by omega) (by omega)⟩, ?_⟩⟩⟩⟩
      · rw [Int.toNat_natCast] at gz
        refine bX4_givingBodies_97 ⟨by omega, ih _ (fun y => ?_)⟩
        rw [e2]
        refine ⟨fun z => ⟨by omega, z.2⟩, fun z => ⟨?_, z.2⟩⟩
        have : ¬ y = i := fun e => key.mp gz (e ▸ z.2)
        omega
      · rw [Int.toNat_natCast] at gz
        simp only [Int.toNat_natCast]
        refine bX4_givingBodies_97 ⟨by omega, ih _ (fun y => ?_)⟩
        rw [bt_or, Bool.or_eq_true, e2, bt_p2' y (by omega), decide_eq_true_eq]
        constructor
        · rintro (z | z)
          · exact ⟨by omega, z.2⟩
          · subst z; exact ⟨by omega, Classical.byContradiction (fun w => gz (key.mpr w))⟩
        · intro z
          by_cases hyi : y = i
          · exact Or.inr hyi
          · exact Or.inl ⟨by omega, z.2⟩
    · intro r e2
      exact bX4_givingBodies_71 ⟨fun _ => bX4_givingBodies_103 (H r (fun y hy => by rw [e2]; exact ⟨fun z => z.2, fun z => ⟨hy, z⟩⟩)), fun z => by omega⟩
    · intro y; rw [bt_0]; exact ⟨fun z => absurd z (by decide), fun z => by omega⟩
  · intro y
    show bt 0 y = true ↔ _
    rw [bt_0]; exact ⟨fun z => absurd z (by decide), fun z => by omega⟩
theorem kX4_canTake {L : Nat} {xs : Nat → Int} {P : Nat → List am_V → am_H → am_K → Prop} {d : Nat} {h : am_H} {K : am_K} {b m : Nat} {g : Int} (hb : b < 10) (hm : m < 14) (hf : h 50 m = -1 ∨ (0 ≤ h 50 m ∧ h 50 m < 10)) (H0 : ¬ (h 50 m = -1 ∨ bt g (h 50 m).toNat = true ∨ Ch h (h 50 m).toNat b) → K (0, 0) h) (H1 : (h 50 m = -1 ∨ bt g (h 50 m).toNat = true ∨ Ch h (h 50 m).toNat b) → K (0, 1) h) : am_C true L xs P (d + 2) 51 [(2, 44), (0, (b : Int)), (0, (m : Int)), (0, g)] h K := by
  refine eX4_canTake (bX4_canTake_0 ⟨by omega, ?_⟩)
  simp only [Int.toNat_natCast]
  refine ⟨fun z => bX4_canTake_37 (bX4_canTake_42 ⟨by decide, H1 (Or.inl z)⟩), fun z => ?_⟩
  have hr : 0 ≤ h 50 m ∧ h 50 m < 10 := hf.resolve_left z
  rw [show h 50 m = (((h 50 m).toNat : Nat) : Int) by omega]
  refine kBit (d := d) (by omega) (fun gb => ?_) (fun gb => ?_)
  · refine ⟨fun w => absurd rfl w, fun _ => ⟨by omega, kBit (d := d) (by omega) (fun gc => ?_) (fun gc => ?_)⟩⟩
    · refine ⟨fun _ => bX4_canTake_41 (bX4_canTake_42 ⟨by decide, H0 ?_⟩), fun w => absurd rfl w⟩
      rintro (w | w | w)
      · exact z w
      · rw [gb] at w; exact absurd w (by decide)
      · unfold Ch at w; rw [Int.toNat_natCast] at gc; rw [gc] at w; exact absurd w (by decide)
    · refine ⟨fun w => absurd w (by decide), fun _ => bX4_canTake_37 (bX4_canTake_42 ⟨by decide, H1 (Or.inr (Or.inr ?_))⟩)⟩
      rw [Int.toNat_natCast] at gc; exact gc
  · exact ⟨fun _ => bX4_canTake_37 (bX4_canTake_42 ⟨by decide, H1 (Or.inr (Or.inl gb))⟩), fun w => absurd (by decide) w⟩
/-- the verdicts' rows -/
def Kn (h : am_H) (b : Nat) : Prop := bt (h 44 8) b = true
def Su (h : am_H) (b m : Nat) : Prop := Kn h b ∧ h 45 (b * 14 + m) = 3
theorem kX4_onlySureBody {L : Nat} {xs : Nat → Int} {P : Nat → List am_V → am_H → am_K → Prop} {d : Nat} {h : am_H} {K : am_K} {m : Nat} (hm : m < 14) (H : ∀ r : Int, ((r = -1 ∧ ¬ ∃ b, b < 10 ∧ Su h b m ∧ ∀ b', b' < 10 → Su h b' m → b' = b) ∨ (0 ≤ r ∧ r < 10 ∧ Su h r.toNat m ∧ ∀ b', b' < 10 → Su h b' m → b' = r.toNat)) → K (0, r) h) : am_C true L xs P (d + 2) 45 [(2, 44), (0, (m : Int))] h K := by
  refine eX4_onlySureBody (bX4_onlySureBody_0 ?_)
  refine upto (σ := Int) (N := 10) (I := fun i r => (r = -1 ∧ ∀ b, b < i → ¬ Su h b m) ∨ (0 ≤ r ∧ r < i ∧ Su h r.toNat m ∧ ∀ b', b' < i → Su h b' m → b' = r.toNat)) (G := fun i r => tX4_onlySureBody (h 0 0 + (0 : Nat)) L xs (am_C true L xs P (d + 1)) K 4 [(2, 44), (0, (m : Int)), (0, r), (0, (i : Int))] [] h) ?_ ?_ 10 0 (-1) (by omega) (Or.inl ⟨rfl, fun b hb => by omega⟩)
  · intro i r hi e1 ih
    have skip : ¬ Su h i m → tX4_onlySureBody (h 0 0 + (0 : Nat)) L xs (am_C true L xs P (d + 1)) K 40 [(2, 44), (0, (m : Int)), (0, r), (0, (i : Int))] [] h := by
      intro hn
      refine bX4_onlySureBody_40 ⟨by omega, ih r ?_⟩
      rcases e1 with ⟨z1, z2⟩ | ⟨z1, z2, z3, z4⟩
      · refine Or.inl ⟨z1, fun b hb hs => ?_⟩
        by_cases hbi : b = i
        · exact hn (hbi ▸ hs)
        · exact z2 b (by omega) hs
      · refine Or.inr ⟨z1, by omega, z3, fun b hb hs => ?_⟩
        by_cases hbi : b = i
        · exact absurd (hbi ▸ hs) hn
        · exact z4 b (by omega) hs
    refine bX4_onlySureBody_4 ⟨fun z => by omega, fun _ => kBit (d := d) (by omega) (fun gb => ?_) (fun gb => ?_)⟩
    · refine ⟨fun _ => skip (fun z => ?_), fun z => absurd rfl z⟩
      have := z.1
      unfold Kn at this; rw [gb] at this; exact absurd this (by decide)
    · refine ⟨fun z => absurd z (by decide), fun _ => kX4_verdict (d := d) (by omega) (by omega) ?_⟩
      have ei : Int.toNat ((i : Int) * 14 + (m : Int)) = i * 14 + m := by omega
      dsimp only
      rw [ei]
      refine ⟨fun gz => skip (fun z => gz z.2), fun gz => ⟨fun gr => ?_, fun gr => ?_⟩⟩
      · have hs : Su h i m := ⟨gb, Classical.not_not.mp gz⟩
        refine bX4_onlySureBody_38 (bX4_onlySureBody_40 ⟨by omega, ih _ (Or.inr ⟨by omega, by omega, by rw [Int.toNat_natCast]; exact hs, fun b hb hs' => ?_⟩)⟩)
        rw [Int.toNat_natCast]
        rcases e1 with ⟨z1, z2⟩ | ⟨z1, z2, z3, z4⟩
        · by_cases hbi : b = i
          · exact hbi
          · exact absurd hs' (z2 b (by omega))
        · omega
      · have hs : Su h i m := ⟨gb, Classical.not_not.mp gz⟩
        refine H (-1) (Or.inl ⟨rfl, fun ⟨b, hb, hsb, hall⟩ => ?_⟩)
        rcases e1 with ⟨z1, z2⟩ | ⟨z1, z2, z3, z4⟩
        · exact gr z1
        · have h1 := hall i hi hs
          have h2 := hall r.toNat (by omega) z3
          omega
  · intro r e1
    refine bX4_onlySureBody_4 ⟨fun _ => bX4_onlySureBody_46 (H r ?_), fun z => by omega⟩
    rcases e1 with ⟨z1, z2⟩ | ⟨z1, z2, z3, z4⟩
    · exact Or.inl ⟨z1, fun ⟨b, hb, hs, _⟩ => z2 b hb hs⟩
    · exact Or.inr ⟨z1, by omega, z3, z4⟩
theorem kX4_gatherCandidates {L : Nat} {xs : Nat → Int} {P : Nat → List am_V → am_H → am_K → Prop} {d : Nat} {h : am_H} {K : am_K} {nm : Nat} (hnm : nm ≤ 14) (H : ∀ h', Fr [46] h h' → (∀ b, b < 10 → ∀ m, Ey h' b m ↔ Kn h b ∧ m < nm ∧ 2 ≤ h 45 (b * 14 + m)) → K (9, 0) h') : am_C true L xs P (d + 2) 43 [(2, 44), (0, (nm : Int))] h K := by
  refine eX4_gatherCandidates (bX4_gatherCandidates_0 ?_)
  refine upto (σ := am_V × am_H) (N := 10) (I := fun i s => Fr [46] h s.2 ∧ ∀ b, b < i → ∀ m, Ey s.2 b m ↔ Kn h b ∧ m < nm ∧ 2 ≤ h 45 (b * 14 + m)) (G := fun i s => tX4_gatherCandidates (h 0 0 + (0 : Nat)) L xs (am_C true L xs P (d + 1)) K 2 [(2, 44), (0, (nm : Int)), (0, (i : Int)), s.1] [] s.2) ?_ ?_ 10 0 ((9, 0), h) (by omega) ⟨Fr.rf, fun b hb => by omega⟩
  · intro i ⟨v, g⟩ hi ⟨e1, e2⟩ ih
    refine bX4_gatherCandidates_2 ⟨fun z => by omega, fun _ => ⟨by omega, ?_⟩⟩
    simp only [Int.toNat_natCast]
    have fin : ∀ (k : Nat) (g' : am_H), Fr [46] h g' → (∀ b, b < i → ∀ m, Ey g' b m ↔ Kn h b ∧ m < nm ∧ 2 ≤ h 45 (b * 14 + m)) → (∀ m, Ey g' i m ↔ Kn h i ∧ m < nm ∧ 2 ≤ h 45 (i * 14 + m)) → tX4_gatherCandidates (h 0 0 + (0 : Nat)) L xs (am_C true L xs P (d + 1)) K 61 [(2, 44), (0, (nm : Int)), (0, (i : Int)), (0, (k : Int))] [] g' := by
      intro k g' q1 q2 q3
      refine bX4_gatherCandidates_61 ⟨by omega, ih ((0, (k : Int)), g') ⟨q1, fun b hb m => ?_⟩⟩
      by_cases hbi : b = i
      · subst hbi; exact q3 m
      · exact q2 b (by omega) m
    refine upto (σ := am_H) (N := nm) (I := fun k g' => Fr [46] h g' ∧ (∀ b, b < i → ∀ m, Ey g' b m ↔ Kn h b ∧ m < nm ∧ 2 ≤ h 45 (b * 14 + m)) ∧ ∀ m, Ey g' i m ↔ Kn h i ∧ m < k ∧ 2 ≤ h 45 (i * 14 + m)) (G := fun k g' => tX4_gatherCandidates (h 0 0 + (0 : Nat)) L xs (am_C true L xs P (d + 1)) K 17 [(2, 44), (0, (nm : Int)), (0, (i : Int)), (0, (k : Int))] [] g') ?_ ?_ nm 0 _ (by omega) ⟨e1.st (by decide), fun b hb m => ?_, fun m => ?_⟩
    · intro k g' hk ⟨q1, q2, q3⟩ ihk
      have e44 : g' 44 = h 44 := q1 44 (by decide)
      have e45 : g' 45 = h 45 := q1 45 (by decide)
      refine bX4_gatherCandidates_17 ?_
      rw [e44]
      refine kBit (d := d) (by omega) (fun gb => ?_) (fun gb => ?_)
      · refine ⟨fun _ => fin k g' q1 q2 (fun m => ?_), fun z => absurd rfl z⟩
        rw [q3]
        have : ¬ Kn h i := fun z => by unfold Kn at z; rw [gb] at z; exact absurd z (by decide)
        exact ⟨fun z => absurd z.1 this, fun z => absurd z.1 this⟩
      · refine ⟨fun z => absurd z (by decide), fun _ => ⟨fun z => by omega, fun _ => kX4_verdict (d := d) (by omega) (by omega) ?_⟩⟩
        have ei : Int.toNat ((i : Int) * 14 + (k : Int)) = i * 14 + k := by omega
        dsimp only
        rw [ei, e45]
        refine ⟨fun gz => bX4_gatherCandidates_55 ⟨by omega, ihk g' ⟨q1, q2, fun m => ?_⟩⟩, fun gz => ⟨by omega, ⟨⟨by omega, by omega, by omega, am_p2 (by omega) (by omega)⟩, by omega, bX4_gatherCandidates_55 ⟨by omega, ihk _ ⟨q1.st (by decide), fun b hb m => ?_, fun m => ?_⟩⟩⟩⟩⟩
        · rw [q3]
          refine and_congr_right (fun _ => ⟨fun z => ⟨by omega, z.2⟩, fun z => ⟨?_, z.2⟩⟩)
          have : ¬ m = k := fun e => by subst e; omega
          omega
        · have := q2 b hb m
          unfold Ey at this ⊢
          rw [Int.toNat_natCast, st_nj (by omega)]; exact this
        · have := q3 m
          unfold Ey at this ⊢
          simp only [Int.toNat_natCast]
          rw [st_at, bt_or, Bool.or_eq_true, this, bt_p2' m (by omega), decide_eq_true_eq]
          constructor
          · rintro (z | z)
            · exact ⟨z.1, by omega, z.2.2⟩
            · subst z; exact ⟨gb, by omega, by omega⟩
          · intro z
            by_cases hmk : m = k
            · exact Or.inr hmk
            · exact Or.inl ⟨z.1, by omega, z.2.2⟩
    · intro g' ⟨q1, q2, q3⟩
      have e44 : g' 44 = h 44 := q1 44 (by decide)
      refine bX4_gatherCandidates_17 ?_
      refine kBit (d := d) (by omega) (fun gb => ?_) (fun gb => ?_)
      · exact ⟨fun _ => fin nm g' q1 q2 q3, fun z => absurd rfl z⟩
      · exact ⟨fun z => absurd z (by decide), fun _ => ⟨fun _ => fin nm g' q1 q2 q3, fun z => by omega⟩⟩
    · have := e2 b hb m
      unfold Ey at this ⊢
      rw [st_nj (by omega)]; exact this
    · unfold Ey
      rw [st_at, bt_0]
      exact ⟨fun z => absurd z (by decide), fun z => by omega⟩
  · intro ⟨v, g⟩ ⟨e1, e2⟩
    exact bX4_gatherCandidates_2 ⟨fun _ => bX4_gatherCandidates_67 (H g e1 e2), fun z => by omega⟩
/-- a body that alone surely is a man -/
def Own (S : Nat → Nat → Prop) (b m : Nat) : Prop := S b m ∧ ∀ b', b' < 10 → S b' m → b' = b
/-- who may be whom once the sure ones are bound -/
def Bnd (S E0 : Nat → Nat → Prop) (n : Nat) (b m : Nat) : Prop := (m < n ∧ Own S b m) ∨ ((∀ m', m' < n → ¬ Own S b m') ∧ E0 b m ∧ ∀ b', b' < 10 → ¬ (m < n ∧ Own S b' m))
theorem kX4_bindSure {L : Nat} {xs : Nat → Int} {P : Nat → List am_V → am_H → am_K → Prop} {d : Nat} {h : am_H} {K : am_K} {nm : Nat} (hnm : nm ≤ 14) (hU : ∀ b m m', b < 10 → m < nm → m' < nm → Su h b m → Su h b m' → m = m') (H : ∀ h', Fr [46] h h' → (∀ b, b < 10 → ∀ m, Ey h' b m ↔ Bnd (Su h) (Ey h) nm b m) → K (9, 0) h') : am_C true L xs P (d + 3) 44 [(2, 44), (0, (nm : Int))] h K := by
  refine eX4_bindSure (bX4_bindSure_0 ?_)
  refine upto (σ := am_V × am_V × am_H) (N := nm) (I := fun i s => Fr [46] h s.2.2 ∧ ∀ b, b < 10 → ∀ m, Ey s.2.2 b m ↔ Bnd (Su h) (Ey h) i b m) (G := fun i s => tX4_bindSure (h 0 0 + (0 : Nat)) L xs (am_C true L xs P (d + 2)) K 2 [(2, 44), (0, (nm : Int)), (0, (i : Int)), s.1, s.2.1] [] s.2.2) ?_ ?_ nm 0 ((9, 0), (9, 0), h) (by omega) ⟨Fr.rf, fun b hb m => ?_⟩
  · intro i ⟨v, w, g⟩ hi ⟨e1, e2⟩ ih
    dsimp only at e1 e2
    have eS : Su g = Su h := by unfold Su Kn; rw [e1 44 (by decide), e1 45 (by decide)]
    refine bX4_bindSure_2 ⟨fun z => by omega, fun _ => kX4_onlySureBody (d := d) (by omega) (fun r hr => ?_)⟩
    rw [eS] at hr
    dsimp only
    rcases hr with ⟨r1, r2⟩ | ⟨r1, r2, r3, r4⟩
    · subst r1
      refine bX4_bindSure_16 ⟨fun _ => bX4_bindSure_66 ⟨by omega, ih (_, _, g) ⟨e1, fun b hb m => ?_⟩⟩, fun z => absurd rfl z⟩
      show Ey g b m ↔ _
      rw [e2 b hb m]
      have no : ∀ b', b' < 10 → ¬ Own (Su h) b' i := fun b' hb' ho => r2 ⟨b', hb', ho.1, ho.2⟩
      constructor
      · rintro (z | ⟨z1, z2, z3⟩)
        · exact Or.inl ⟨by omega, z.2⟩
        · refine Or.inr ⟨fun m' hm' ho => ?_, z2, fun b' hb' ho => ?_⟩
          · by_cases hmi : m' = i
            · exact no b hb (hmi ▸ ho)
            · exact z1 m' (by omega) ho
          · by_cases hmi : m = i
            · exact no b' hb' (hmi ▸ ho.2)
            · exact z3 b' hb' ⟨by omega, ho.2⟩
      · rintro (z | ⟨z1, z2, z3⟩)
        · refine Or.inl ⟨?_, z.2⟩
          have : ¬ m = i := fun e => no b hb (e ▸ z.2)
          omega
        · exact Or.inr ⟨fun m' hm' ho => z1 m' (by omega) ho, z2, fun b' hb' ho => z3 b' hb' ⟨by omega, ho.2⟩⟩
    · have hown : Own (Su h) r.toNat i := ⟨r3, r4⟩
      refine upto (σ := am_H) (N := 10) (I := fun k g' => Fr [46] h g' ∧ (∀ b, k ≤ b → b < 10 → ∀ m, Ey g' b m ↔ Bnd (Su h) (Ey h) i b m) ∧ ∀ b, b < k → ∀ m, Ey g' b m ↔ Bnd (Su h) (Ey h) (i + 1) b m) (G := fun k g' => tX4_bindSure (h 0 0 + (0 : Nat)) L xs (am_C true L xs P (d + 2)) K 16 [(2, 44), (0, (nm : Int)), (0, (i : Int)), (0, r), (0, (k : Int))] [] g') ?_ ?_ 10 0 g (by omega) ⟨e1, fun b _ hb m => e2 b hb m, fun b hb => by omega⟩
      · intro k g' hk ⟨q1, q2, q3⟩ ihk
        have put : ∀ v : Int, (∀ m, bt v m = true ↔ Bnd (Su h) (Ey h) (i + 1) k m) → tX4_bindSure (h 0 0 + (0 : Nat)) L xs (am_C true L xs P (d + 2)) K 59 [(2, 44), (0, (nm : Int)), (0, (i : Int)), (0, r), (0, (k : Int))] [(0, v), (0, (k : Int)), (2, 46)] g' := by
          intro v hv
          refine bX4_bindSure_59 ⟨by omega, by omega, ihk _ ⟨q1.st (by decide), fun b hb1 hb2 m => ?_, fun b hb m => ?_⟩⟩
          · have := q2 b (by omega) hb2 m
            unfold Ey at this ⊢
            rw [Int.toNat_natCast, st_nj (by omega)]; exact this
          · by_cases hbk : b = k
            · subst hbk
              unfold Ey
              rw [Int.toNat_natCast, st_at]; exact hv m
            · have := q3 b (by omega) m
              unfold Ey at this ⊢
              rw [Int.toNat_natCast, st_nj (by omega)]; exact this
        refine bX4_bindSure_16 ⟨fun z => by omega, fun _ => ⟨fun z => by omega, fun _ => ⟨fun gz => ?_, fun gz => ⟨⟨by omega, by omega, by omega, am_p2 (by omega) (by omega)⟩, put _ (fun m => ?_)⟩⟩⟩⟩
        · refine bX4_bindSure_46 ⟨by omega, ⟨⟨by omega, by omega, by omega, am_p2 (by omega) (by omega)⟩, put _ (fun m => ?_)⟩⟩
          simp only [Int.toNat_natCast]
          have hq := q2 k (by omega) hk m
          have hne : ¬ Own (Su h) k i := fun z => gz (by have := z.2 r.toNat (by omega) r3; omega)
          rw [bt_and, bt_xor, bt_p2' m (by omega)]
          unfold Ey at hq
          by_cases hmi : m = i
          · subst hmi
            rw [bt_m1 (by omega)]
            have hF : ¬ Bnd (Su h) (Ey h) (m + 1) k m := by
              rintro (z | ⟨z1, z2, z3⟩)
              · exact hne z.2
              · exact z3 r.toNat (by omega) ⟨by omega, hown⟩
            simp [hF]
          · by_cases hm32 : m < 32
            · rw [bt_m1 hm32]
              simp only [hmi, decide_false, Bool.false_bne, Bool.and_true]
              rw [hq]
              constructor
              · rintro (z | ⟨z1, z2, z3⟩)
                · exact Or.inl ⟨by omega, z.2⟩
                · refine Or.inr ⟨fun m' hm' ho => ?_, z2, fun b' hb' ho => z3 b' hb' ⟨by omega, ho.2⟩⟩
                  by_cases hmi' : m' = i
                  · exact hne (hmi' ▸ ho)
                  · exact z1 m' (by omega) ho
              · rintro (z | ⟨z1, z2, z3⟩)
                · exact Or.inl ⟨by omega, z.2⟩
                · exact Or.inr ⟨fun m' hm' ho => z1 m' (by omega) ho, z2, fun b' hb' ho => z3 b' hb' ⟨by omega, ho.2⟩⟩
            · have hf : bt (g' 46 k) m = false := bt_ge _ (by omega)
              rw [hf] at hq ⊢
              simp only [Bool.false_and]
              refine ⟨fun z => absurd z (by decide), ?_⟩
              rintro (z | ⟨z1, z2, z3⟩)
              · omega
              · unfold Ey at z2
                rw [bt_ge _ (by omega)] at z2; exact z2
        · simp only [Int.toNat_natCast]
          rw [bt_p2' m (by omega), decide_eq_true_eq]
          have hrk : r.toNat = k := by omega
          rw [hrk] at hown
          constructor
          · intro z; subst z; exact Or.inl ⟨by omega, hown⟩
          · rintro (z | ⟨z1, z2, z3⟩)
            · exact hU k m i (by omega) (by omega) (by omega) z.2.1 hown.1
            · exact absurd hown (z1 i (by omega))
      · intro g' ⟨q1, q2, q3⟩
        exact bX4_bindSure_16 ⟨fun z => by omega, fun _ => ⟨fun _ => bX4_bindSure_66 ⟨by omega, ih (_, _, g') ⟨q1, fun b hb m => q3 b hb m⟩⟩, fun z => by omega⟩⟩
  · intro ⟨v, w, g⟩ ⟨e1, e2⟩
    exact bX4_bindSure_2 ⟨fun _ => bX4_bindSure_72 (H g e1 e2), fun z => by omega⟩
  · show Ey h b m ↔ _
    constructor
    · intro z; exact Or.inr ⟨fun m' hm' => by omega, z, fun b' _ ho => by omega⟩
    · rintro (z | z)
      · omega
      · exact z.2.1
