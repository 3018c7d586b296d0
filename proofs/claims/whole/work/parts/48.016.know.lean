/-! what the notes tell: the model -/
/-- the model's knowledge -/
def KM (n N : Nat) (h g : am_H) : Prop := (Fr [79, 80] h g) ∧ (∀ k, k < N → g 79 k = 0 ∨ g 79 k = 1) ∧ (∀ k, n ≤ k → k < N → g 79 k = 0) ∧ (AL (h 63) (h 64) n (fun k => g 79 k = 1)) ∧ (∀ b t : Nat, b < 10 → t < 14 → Lst (fun k => g 79 k = 1 ∧ h 63 k = 1 ∧ h 64 k = b ∧ h 65 k = t ∧ g 79 (h 68 b).toNat = 1) (h 66) 0 n (g 80 (14 * b + t)))
theorem KM.fr {n N : Nat} {h g : am_H} (s_ : KM n N h g) : Fr [79, 80] h g := s_.1
theorem KM.c01 {n N : Nat} {h g : am_H} (s_ : KM n N h g) : ∀ k, k < N → g 79 k = 0 ∨ g 79 k = 1 := s_.2.1
theorem KM.out {n N : Nat} {h g : am_H} (s_ : KM n N h g) : ∀ k, n ≤ k → k < N → g 79 k = 0 := s_.2.2.1
theorem KM.al {n N : Nat} {h g : am_H} (s_ : KM n N h g) : AL (h 63) (h 64) n (fun k => g 79 k = 1) := s_.2.2.2.1
theorem KM.re {n N : Nat} {h g : am_H} (s_ : KM n N h g) : ∀ b t : Nat, b < 10 → t < 14 → Lst (fun k => g 79 k = 1 ∧ h 63 k = 1 ∧ h 64 k = b ∧ h 65 k = t ∧ g 79 (h 68 b).toNat = 1) (h 66) 0 n (g 80 (14 * b + t)) := s_.2.2.2.2
def WM (h : am_H) (n N nb : Nat) : Prop := (nb ≤ 10) ∧ (∀ k, k < n → h 63 k = 1 → 0 ≤ h 64 k ∧ h 64 k < nb ∧ 0 ≤ h 65 k ∧ h 65 k < 14) ∧ (∀ k, k < n → h 63 k = 3 → 0 ≤ h 64 k ∧ h 64 k < k) ∧ (∀ b : Nat, b < nb → 0 ≤ h 68 b ∧ h 68 b < N)
theorem WM.nb10 {h : am_H} {n N nb : Nat} (s_ : WM h n N nb) : nb ≤ 10 := s_.1
theorem WM.k1 {h : am_H} {n N nb : Nat} (s_ : WM h n N nb) : ∀ k, k < n → h 63 k = 1 → 0 ≤ h 64 k ∧ h 64 k < nb ∧ 0 ≤ h 65 k ∧ h 65 k < 14 := s_.2.1
theorem WM.k3 {h : am_H} {n N nb : Nat} (s_ : WM h n N nb) : ∀ k, k < n → h 63 k = 3 → 0 ≤ h 64 k ∧ h 64 k < k := s_.2.2.1
theorem WM.no {h : am_H} {n N nb : Nat} (s_ : WM h n N nb) : ∀ b : Nat, b < nb → 0 ≤ h 68 b ∧ h 68 b < N := s_.2.2.2
theorem kX12_isKnown {L : Nat} {xs : Nat → Int} {P : Nat → List am_V → am_H → am_K → Prop} {d : Nat} {h : am_H} {K : am_K} {b : Int} (hb : 0 ≤ b ∧ b < 10) (hn : 0 ≤ h 68 b.toNat ∧ h 68 b.toNat < 90) (H0 : h 79 (h 68 b.toNat).toNat = 0 → K (0, 0) h) (H1 : h 79 (h 68 b.toNat).toNat = 1 → K (0, 1) h) : am_C true L xs P (d + 1) 175 [(2, 59), (0, b)] h K := by
  refine eX12_isKnown (bX12_isKnown_0 ⟨hb, hn, fun z => ⟨z, ?_⟩⟩)
  by_cases e : h 79 (h 68 b.toNat).toNat = 0
  · rw [e]; exact H0 e
  · have e1 : h 79 (h 68 b.toNat).toNat = 1 := by omega
    rw [e1]; exact H1 e1
theorem kX12_know {L : Nat} {xs : Nat → Int} {P : Nat → List am_V → am_H → am_K → Prop} {d : Nat} {h : am_H} {K : am_K} {n N nb : Nat} (hn : n ≤ N) (hN : N ≤ 90) (h11 : h 59 11 = N) (hW : WM h n N nb) (H : ∀ g', KM n N h g' → K (9, 0) g') : am_C true L xs P (d + 2) 176 [(2, 59), (0, (n : Int))] h K := by
  have hnb := hW.nb10
  refine eX12_know (bX12_know_0 ?_)
  refine upto (σ := am_H) (N := N) (I := fun i g => Fr [79, 80] h g ∧ ∀ k, k < i → g 79 k = if k < n then 1 else 0) (G := fun i g => tX12_know (h 0 0 + (0 : Nat)) L xs (am_C true L xs P (d + 1)) K 2 [(2, 59), (0, (n : Int)), (0, (i : Int))] [] g) ?_ ?_ N 0 h (by omega) ⟨Fr.rf, fun k hk => by omega⟩
  · intro i g hi ⟨e1, e2⟩ ih
    have e59 : g 59 = h 59 := e1 59 (by decide)
    refine bX12_know_2 ⟨fun z => by rw [e59, h11] at z; omega, fun _ => ⟨fun z => bX12_know_24 (bX12_know_25 ⟨by omega, by omega, ih _ ⟨e1.st (by decide), fun k hk => ?_⟩⟩), fun z => bX12_know_25 ⟨by omega, by omega, ih _ ⟨e1.st (by decide), fun k hk => ?_⟩⟩⟩⟩
    · rw [Int.toNat_natCast, st_ap]
      split
      · rw [if_neg (by omega)]
      · exact e2 k (by omega)
    · rw [Int.toNat_natCast, st_ap]
      split
      · rw [if_pos (by omega)]
      · exact e2 k (by omega)
  · intro g ⟨e1, e2⟩
    have e59 : g 59 = h 59 := e1 59 (by decide)
    refine bX12_know_2 ⟨fun _ => bX12_know_32 ⟨by omega, ?_⟩, fun z => by rw [e59, h11] at z; omega⟩
    refine dnto (σ := am_H) (I := fun i g => i ≤ n ∧ Fr [79, 80] h g ∧ (∀ k, k < N → g 79 k = 0 ∨ g 79 k = 1) ∧ (∀ k, n ≤ k → k < N → g 79 k = 0) ∧ ∀ k, k < n → (g 79 k = 1 ↔ ¬ ∃ j, i ≤ j ∧ j < n ∧ h 63 j = 3 ∧ h 64 j = k ∧ g 79 j = 1)) (G := fun i g => tX12_know (h 0 0 + (0 : Nat)) L xs (am_C true L xs P (d + 1)) K 36 [(2, 59), (0, (n : Int)), (0, (i : Int) - 1)] [] g) ?_ ?_ n g ⟨Nat.le_refl _, e1, ?_, ?_, ?_⟩
    · intro i g ⟨hi, e1, e2, e3, e4⟩ ih
      rw [show ((i + 1 : Nat) : Int) - 1 = (i : Int) by omega]
      have e63 : g 63 = h 63 := e1 63 (by decide)
      have e64 : g 64 = h 64 := e1 64 (by decide)
      have skip : ¬ (h 63 i = 3 ∧ g 79 i = 1) → tX12_know (h 0 0 + (0 : Nat)) L xs (am_C true L xs P (d + 1)) K 71 [(2, 59), (0, (n : Int)), (0, (i : Int))] [] g := by
        intro hs
        refine bX12_know_71 ⟨by omega, ?_⟩
        rw [show (i : Int) + (-1) = (i : Int) - 1 by omega]
        refine ih g ⟨by omega, e1, e2, e3, fun k hk => ?_⟩
        rw [e4 k hk]
        exact not_congr (ex_skip (p := fun j => h 63 j = 3 ∧ h 64 j = k ∧ g 79 j = 1) (fun z => hs ⟨z.1, z.2.2⟩))
      refine bX12_know_36 ⟨fun z => by omega, fun _ => ⟨by omega, ?_⟩⟩
      rw [Int.toNat_natCast, e63, e64]
      refine ⟨fun gz => skip (fun z => gz z.1), fun gz => ⟨by omega, fun _ => ⟨fun gc => skip (fun z => by omega), fun gc => ?_⟩⟩⟩
      have k3 : h 63 i = 3 := Classical.not_not.mp gz
      have a1 : g 79 i = 1 := (e2 i (by omega)).resolve_left gc
      have hsj := hW.k3 i (by omega) k3
      refine ⟨by omega, by omega, bX12_know_71 ⟨by omega, ?_⟩⟩
      rw [show (i : Int) + (-1) = (i : Int) - 1 by omega]
      have x79 : ∀ k, i ≤ k → am_st g 79 (h 64 i).toNat 0 79 k = g 79 k := fun k hk => st_nj (by omega)
      refine ih _ ⟨by omega, e1.st (by decide), fun k hk => ?_, fun k k1 k2 => ?_, fun k hk => ?_⟩
      · rw [st_ap]; split
        · exact Or.inl rfl
        · exact e2 k hk
      · rw [x79 k (by omega)]; exact e3 k k1 k2
      · rw [st_ap]
        by_cases e : k = (h 64 i).toNat
        · rw [if_pos e]
          refine ⟨fun z => by omega, fun z => absurd ⟨i, Nat.le_refl _, by omega, k3, by omega, by rw [x79 i (Nat.le_refl _)]; exact a1⟩ z⟩
        · rw [if_neg e, e4 k hk]
          refine not_congr ?_
          constructor
          · rintro ⟨j, j1, j2, j3, j4, j5⟩
            exact ⟨j, by omega, j2, j3, j4, by rw [x79 j (by omega)]; exact j5⟩
          · rintro ⟨j, j1, j2, j3, j4, j5⟩
            rw [x79 j (by omega)] at j5
            refine ⟨j, ?_, j2, j3, j4, j5⟩
            have : ¬ j = i := fun e2 => by subst e2; omega
            omega
    · intro g ⟨_, e1, e2, e3, e4⟩
      refine bX12_know_36 ⟨fun _ => bX12_know_77 ?_, fun z => by omega⟩
      refine upto (σ := am_H) (N := 140) (I := fun i g' => Fr [79, 80] h g' ∧ g' 79 = g 79 ∧ ∀ k, k < i → g' 80 k = -1) (G := fun i g => tX12_know (h 0 0 + (0 : Nat)) L xs (am_C true L xs P (d + 1)) K 79 [(2, 59), (0, (n : Int)), (0, (i : Int))] [] g) ?_ ?_ 140 0 g (by omega) ⟨e1, rfl, fun k hk => by omega⟩
      · intro i g' hi ⟨q1, q2, q3⟩ ih
        refine bX12_know_79 ⟨fun z => by omega, fun _ => ⟨by omega, by omega, ih _ ⟨q1.st (by decide), by rw [st_ne (by decide)]; exact q2, fun k hk => ?_⟩⟩⟩
        rw [Int.toNat_natCast, st_ap]
        split
        · rfl
        · exact q3 k (by omega)
      · intro g' ⟨q1, q2, q3⟩
        refine bX12_know_79 ⟨fun _ => bX12_know_99 ?_, fun z => by omega⟩
        refine upto (σ := am_H) (N := n) (I := fun i g' => Fr [79, 80] h g' ∧ g' 79 = g 79 ∧ ∀ b t : Nat, b < 10 → t < 14 → Lst (fun k => g 79 k = 1 ∧ h 63 k = 1 ∧ h 64 k = b ∧ h 65 k = t ∧ g 79 (h 68 b).toNat = 1) (h 66) 0 i (g' 80 (14 * b + t))) (G := fun i g => tX12_know (h 0 0 + (0 : Nat)) L xs (am_C true L xs P (d + 1)) K 101 [(2, 59), (0, (n : Int)), (0, (i : Int))] [] g) ?_ ?_ n 0 g' (by omega) ⟨q1, q2, fun b t hb ht => Or.inl ⟨q3 _ (by omega), fun k _ hk => by omega⟩⟩
        · intro i g' hi ⟨q1, q2, q3⟩ ih
          have e63 : g' 63 = h 63 := q1 63 (by decide)
          have e64 : g' 64 = h 64 := q1 64 (by decide)
          have e65 : g' 65 = h 65 := q1 65 (by decide)
          have e66 : g' 66 = h 66 := q1 66 (by decide)
          have e68 : g' 68 = h 68 := q1 68 (by decide)
          have skip : ¬ (g 79 i = 1 ∧ h 63 i = 1 ∧ g 79 (h 68 (h 64 i).toNat).toNat = 1) → tX12_know (h 0 0 + (0 : Nat)) L xs (am_C true L xs P (d + 1)) K 165 [(2, 59), (0, (n : Int)), (0, (i : Int))] [] g' := by
            intro hs
            refine bX12_know_165 ⟨by omega, ih g' ⟨q1, q2, fun b t hb ht => ?_⟩⟩
            have np : ¬ (g 79 i = 1 ∧ h 63 i = 1 ∧ h 64 i = b ∧ h 65 i = t ∧ g 79 (h 68 b).toNat = 1) := fun z => hs ⟨z.1, z.2.1, by rw [z.2.2.1, Int.toNat_natCast]; exact z.2.2.2.2⟩
            rcases q3 b t hb ht with ⟨r1, r2⟩ | ⟨k, r1, r2, r3, r4, r5⟩
            · refine Or.inl ⟨r1, fun k k1 k2 => ?_⟩
              by_cases e : k = i
              · subst e; exact np
              · exact r2 k k1 (by omega)
            · refine Or.inr ⟨k, r1, by omega, r3, fun j j1 j2 => ?_, r5⟩
              by_cases e : j = i
              · subst e; exact np
              · exact r4 j j1 (by omega)
          refine bX12_know_101 ⟨fun z => by omega, fun _ => ⟨by omega, ?_⟩⟩
          rw [Int.toNat_natCast, e63, e64, q2]
          refine ⟨fun gz => skip (fun z => gz z.2.1), fun gz => ⟨by omega, fun _ => ⟨fun gc => skip (fun z => by omega), fun gc => ?_⟩⟩⟩
          have k1 : h 63 i = 1 := Classical.not_not.mp gz
          obtain ⟨b1, b2, b3, b4⟩ := hW.k1 i hi k1
          have hno := hW.no (h 64 i).toNat (by omega)
          have a1 : g 79 i = 1 := (e2 i (by omega)).resolve_left gc
          refine ⟨by omega, kX12_isKnown (d := d) (by omega) (by rw [e68]; omega) (fun gk => ?_) (fun gk => ?_)⟩
          · rw [e68, q2] at gk
            exact ⟨fun _ => skip (fun z => by omega), fun z => absurd rfl z⟩
          · rw [e68, q2] at gk
            refine ⟨fun z => absurd z (by decide), fun _ => ?_⟩
            rw [e64, e65, e66]
            have hix : (14 * h 64 i + h 65 i).toNat = 14 * (h 64 i).toNat + (h 65 i).toNat := by omega
            rw [hix]
            refine ⟨by omega, by omega, by omega, by omega, by omega, by omega, bX12_know_165 ⟨by omega, ih _ ⟨q1.st (by decide), by rw [st_ne (by decide)]; exact q2, fun b t hb ht => ?_⟩⟩⟩
            rw [st_ap]
            by_cases e : b = (h 64 i).toNat ∧ t = (h 65 i).toNat
            · rw [if_pos (by omega)]
              exact Or.inr ⟨i, by omega, by omega, ⟨a1, k1, by omega, by omega, by rw [e.1]; exact gk⟩, fun j j1 j2 => by omega, rfl⟩
            · rw [if_neg (by omega)]
              have np : ¬ (g 79 i = 1 ∧ h 63 i = 1 ∧ h 64 i = b ∧ h 65 i = t ∧ g 79 (h 68 b).toNat = 1) := fun z => e (by omega)
              rcases q3 b t hb ht with ⟨r1, r2⟩ | ⟨k, r1, r2, r3, r4, r5⟩
              · refine Or.inl ⟨r1, fun k k1 k2 => ?_⟩
                by_cases e : k = i
                · subst e; exact np
                · exact r2 k k1 (by omega)
              · refine Or.inr ⟨k, r1, by omega, r3, fun j j1 j2 => ?_, r5⟩
                by_cases e : j = i
                · subst e; exact np
                · exact r4 j j1 (by omega)
        · intro g' ⟨q1, q2, q3⟩
          refine bX12_know_101 ⟨fun _ => bX12_know_171 (H g' ⟨q1, ?_, ?_, ?_, ?_⟩), fun z => by omega⟩
          · rw [q2]; exact e2
          · rw [q2]; exact e3
          · intro k hk
            dsimp only
            rw [q2, e4 k hk]
            exact not_congr ⟨fun ⟨j, _, j2, j3⟩ => ⟨j, j2, j3⟩, fun ⟨j, j2, j3⟩ => ⟨j, Nat.zero_le _, j2, j3⟩⟩
          · rw [q2]; exact q3
    · intro k hk
      rw [e2 k hk]; split
      · exact Or.inr rfl
      · exact Or.inl rfl
    · intro k k1 k2; rw [e2 k k2, if_neg (by omega)]
    · intro k hk
      rw [e2 k (by omega), if_pos hk]
      exact ⟨fun _ ⟨j, j1, j2, _⟩ => by omega, fun _ => rfl⟩
