/-! chm5: the model's charter -/
/-- a charter is kept in the model -/
def Mk (h : am_H) (c : Cs) (g : am_H) : Prop := (∀ i, ¬ i = 59 → ¬ (72 ≤ i ∧ i ≤ 76) → g i = h i) ∧ (∀ j, ¬ (j = 1 ∨ j = 2 ∨ (24 ≤ j ∧ j ≤ 32) ∨ j = 36 ∨ j = 37) → g 59 j = h 59 j) ∧ (g 59 1 = 0) ∧ (g 59 24 = 0 ∧ g 59 25 = -1) ∧ (g 59 31 = c.np) ∧ (∀ j, j < 6 * c.np → g 72 j = c.pr j) ∧ (∀ k, k < 4 → g 73 k = c.se k) ∧ (g 59 36 = c.nq) ∧ (∀ k, k < c.nq → g 75 k = c.bz k) ∧ (∀ k i, k < c.nq → i < c.bz k → g 76 (8 * k + i) = c.bl (8 * k + i))
theorem Mk.o {h : am_H} {c : Cs} {g : am_H} (s_ : Mk h c g) : ∀ i, ¬ i = 59 → ¬ (72 ≤ i ∧ i ≤ 76) → g i = h i := s_.1
theorem Mk.f {h : am_H} {c : Cs} {g : am_H} (s_ : Mk h c g) : ∀ j, ¬ (j = 1 ∨ j = 2 ∨ (24 ≤ j ∧ j ≤ 32) ∨ j = 36 ∨ j = 37) → g 59 j = h 59 j := s_.2.1
theorem Mk.z1 {h : am_H} {c : Cs} {g : am_H} (s_ : Mk h c g) : g 59 1 = 0 := s_.2.2.1
theorem Mk.z24 {h : am_H} {c : Cs} {g : am_H} (s_ : Mk h c g) : g 59 24 = 0 ∧ g 59 25 = -1 := s_.2.2.2.1
theorem Mk.np {h : am_H} {c : Cs} {g : am_H} (s_ : Mk h c g) : g 59 31 = c.np := s_.2.2.2.2.1
theorem Mk.pr {h : am_H} {c : Cs} {g : am_H} (s_ : Mk h c g) : ∀ j, j < 6 * c.np → g 72 j = c.pr j := s_.2.2.2.2.2.1
theorem Mk.se {h : am_H} {c : Cs} {g : am_H} (s_ : Mk h c g) : ∀ k, k < 4 → g 73 k = c.se k := s_.2.2.2.2.2.2.1
theorem Mk.nq {h : am_H} {c : Cs} {g : am_H} (s_ : Mk h c g) : g 59 36 = c.nq := s_.2.2.2.2.2.2.2.1
theorem Mk.bz {h : am_H} {c : Cs} {g : am_H} (s_ : Mk h c g) : ∀ k, k < c.nq → g 75 k = c.bz k := s_.2.2.2.2.2.2.2.2.1
theorem Mk.bl {h : am_H} {c : Cs} {g : am_H} (s_ : Mk h c g) : ∀ k i, k < c.nq → i < c.bz k → g 76 (8 * k + i) = c.bl (8 * k + i) := s_.2.2.2.2.2.2.2.2.2
theorem brs_np {s : Nat → Int} {n : Nat} : ∀ (f : Nat) (c : Cs) (any : Bool) (c' : Cs), brs s n f c any = .ok c' → c'.np = c.np := by
  intro f
  induction f with
  | zero => intro c any c' h; simp only [brs] at h; injection h with h; rw [h]
  | succ f ih =>
    intro c any c' h
    simp only [brs] at h
    split at h
    · split at h
      · exact absurd h (by simp)
      · split at h
        · exact absurd h (by simp)
        · have e : c'.np = (adv s n (addb s c)).np := ih _ _ _ h
          rw [e]; rfl
    · split at h
      · injection h with h; rw [h]
      · exact absurd h (by simp)
section
variable {L : Nat} {xs : Nat → Int} {P : Nat → List am_V → am_H → am_K → Prop} {d : Nat} {h : am_H} {K : am_K} {s : Nat → Int} {n m : Nat} {c : Cs}
theorem kX12_keep {h0 : am_H} (fc : Fc h0 h) (r : Mr s n (6 * c.np) c h) (w : Cw s n c) (H : ∀ g, Mk h0 c g → K (9, 0) g) : am_C true L xs P (d + 1) 155 [(2, 59)] h K := by
  have np12 := w.np
  have nq8 := w.nq
  refine eX12_keep (bX12_keep_0 ?_)
  generalize hg1 : am_st (am_st h 59 31 (h 59 32)) 59 36 (h 59 37) = g1
  have o1 (i : Nat) (hi : ¬ i = 59) : g1 i = h i := by rw [← hg1, st_ne hi, st_ne hi]
  have q1 (j : Nat) (h1 : ¬ j = 31) (h2 : ¬ j = 36) : g1 59 j = h 59 j := by rw [← hg1, st_nj h2, st_nj h1]
  have e31 : g1 59 31 = c.np := by rw [← hg1, st_nj (by decide), st_at]; exact r.np
  have e36 : g1 59 36 = c.nq := by rw [← hg1, st_at]; exact r.nq
  refine upto (σ := am_H) (N := 72) (I := fun i g => Fr [72] g1 g ∧ (∀ j, j < i → g 72 j = h 72 (72 + j)) ∧ ∀ j, 72 ≤ j → g 72 j = h 72 j) (G := fun i g => tX12_keep (h 0 0 + (0 : Nat)) L xs (am_C true L xs P d) K 18 [(2, 59), (0, (i : Int))] [] g) ?_ ?_ 72 0 g1 (by omega) ⟨Fr.rf, fun j hj => by omega, fun j _ => by rw [o1 72 (by decide)]⟩
  · intro i g hi ⟨a1, a2, a3⟩ ih
    refine bX12_keep_18 ⟨fun z => by omega, fun _ => ⟨⟨by omega, by omega⟩, by omega, by omega, by omega, ih _ ⟨a1.st (by decide), fun j hj => ?_, fun j hj => ?_⟩⟩⟩
    · rw [Int.toNat_natCast, show Int.toNat (72 + (i : Int)) = 72 + i by omega, st_ap, a3 _ (by omega)]
      split
      · rename_i e; rw [e]
      · exact a2 j (by omega)
    · rw [Int.toNat_natCast, st_nj (by omega)]; exact a3 j hj
  intro g2 ⟨a1, a2, _⟩
  refine bX12_keep_18 ⟨fun _ => bX12_keep_45 ?_, fun z => absurd (by decide) z⟩
  refine upto (σ := am_H) (N := 4) (I := fun i g => Fr [73] g2 g ∧ (∀ j, j < i → g 73 j = h 73 (4 + j)) ∧ ∀ j, 4 ≤ j → g 73 j = h 73 j) (G := fun i g => tX12_keep (h 0 0 + (0 : Nat)) L xs (am_C true L xs P d) K 47 [(2, 59), (0, (i : Int))] [] g) ?_ ?_ 4 0 g2 (by omega) ⟨Fr.rf, fun j hj => by omega, fun j _ => by rw [a1 73 (by decide), o1 73 (by decide)]⟩
  · intro i g hi ⟨b1, b2, b3⟩ ih
    refine bX12_keep_47 ⟨fun z => by omega, fun _ => ⟨⟨by omega, by omega⟩, by omega, by omega, by omega, ih _ ⟨b1.st (by decide), fun j hj => ?_, fun j hj => ?_⟩⟩⟩
    · rw [Int.toNat_natCast, show Int.toNat (4 + (i : Int)) = 4 + i by omega, st_ap, b3 _ (by omega)]
      split
      · rename_i e; rw [e]
      · exact b2 j (by omega)
    · rw [Int.toNat_natCast, st_nj (by omega)]; exact b3 j hj
  intro g3 ⟨b1, b2, _⟩
  refine bX12_keep_47 ⟨fun _ => bX12_keep_72 ?_, fun z => absurd (by decide) z⟩
  refine upto (σ := am_H) (N := 8) (I := fun i g => Fr [75] g3 g ∧ (∀ j, j < i → g 75 j = h 75 (8 + j)) ∧ ∀ j, 8 ≤ j → g 75 j = h 75 j) (G := fun i g => tX12_keep (h 0 0 + (0 : Nat)) L xs (am_C true L xs P d) K 74 [(2, 59), (0, (i : Int))] [] g) ?_ ?_ 8 0 g3 (by omega) ⟨Fr.rf, fun j hj => by omega, fun j _ => by rw [b1 75 (by decide), a1 75 (by decide), o1 75 (by decide)]⟩
  · intro i g hi ⟨c1, c2, c3⟩ ih
    refine bX12_keep_74 ⟨fun z => by omega, fun _ => ⟨⟨by omega, by omega⟩, by omega, by omega, by omega, ih _ ⟨c1.st (by decide), fun j hj => ?_, fun j hj => ?_⟩⟩⟩
    · rw [Int.toNat_natCast, show Int.toNat (8 + (i : Int)) = 8 + i by omega, st_ap, c3 _ (by omega)]
      split
      · rename_i e; rw [e]
      · exact c2 j (by omega)
    · rw [Int.toNat_natCast, st_nj (by omega)]; exact c3 j hj
  intro g4 ⟨c1, c2, _⟩
  refine bX12_keep_74 ⟨fun _ => bX12_keep_101 ?_, fun z => absurd (by decide) z⟩
  refine upto (σ := am_H) (N := 64) (I := fun i g => Fr [76] g4 g ∧ (∀ j, j < i → g 76 j = h 76 (64 + j)) ∧ ∀ j, 64 ≤ j → g 76 j = h 76 j) (G := fun i g => tX12_keep (h 0 0 + (0 : Nat)) L xs (am_C true L xs P d) K 103 [(2, 59), (0, (i : Int))] [] g) ?_ ?_ 64 0 g4 (by omega) ⟨Fr.rf, fun j hj => by omega, fun j _ => by rw [c1 76 (by decide), b1 76 (by decide), a1 76 (by decide), o1 76 (by decide)]⟩
  · intro i g hi ⟨d1, d2, d3⟩ ih
    refine bX12_keep_103 ⟨fun z => by omega, fun _ => ⟨⟨by omega, by omega⟩, by omega, by omega, by omega, ih _ ⟨d1.st (by decide), fun j hj => ?_, fun j hj => ?_⟩⟩⟩
    · rw [Int.toNat_natCast, show Int.toNat (64 + (i : Int)) = 64 + i by omega, st_ap, d3 _ (by omega)]
      split
      · rename_i e; rw [e]
      · exact d2 j (by omega)
    · rw [Int.toNat_natCast, st_nj (by omega)]; exact d3 j hj
  intro g5 ⟨d1, d2, _⟩
  refine bX12_keep_103 ⟨fun _ => bX12_keep_130 (H g5 ?_), fun z => absurd (by decide) z⟩
  have e59 : g5 59 = g1 59 := by rw [d1 59 (by decide), c1 59 (by decide), b1 59 (by decide), a1 59 (by decide)]
  refine ⟨fun i h1 h2 => ?_, fun j hj => ?_, by rw [e59, q1 1 (by decide) (by decide)]; exact r.z1, by rw [e59, q1 24 (by decide) (by decide), q1 25 (by decide) (by decide)]; exact r.z24, by rw [e59]; exact e31, fun j hj => ?_, fun k hk => ?_, by rw [e59]; exact e36, fun k hk => ?_, fun k i hk hi => ?_⟩
  · rw [d1 i (by simp; omega), c1 i (by simp; omega), b1 i (by simp; omega), a1 i (by simp; omega), o1 i h1]; exact fc.o i h1 h2
  · rw [e59, q1 j (by omega) (by omega)]; exact fc.f j (by omega)
  · rw [d1 72 (by decide), c1 72 (by decide), b1 72 (by decide), a2 j (by omega)]; exact r.pr j hj
  · rw [d1 73 (by decide), c1 73 (by decide), b2 k hk]; exact r.se k hk
  · rw [d1 75 (by decide), c2 k (by omega)]; exact r.bz k hk
  · have := (w.bz k hk).2.1
    rw [d2 _ (by omega), ← Nat.add_assoc]; exact r.bl k i hk hi
theorem kX12_charter {x : Int} (h4 : 0 ≤ h 59 1 ∧ h 59 1 ≤ 400) (hw : ∀ i, i < 67 → h 71 i = W67.getD i 0) (H0 : ¬ (0 ≤ x ∧ x ≤ h 59 1) → K (0, -2) (am_t0 h)) (Hok : (0 ≤ x ∧ x ≤ h 59 1) → ∀ c a g, lns (h 60) x.toNat (x.toNat + 2) (cs0 (h 60) x.toNat) 0 = (.ok c, a) → Cw (h 60) x.toNat c → Mk h c g → K (0, (a : Int)) g) (Hbad : (0 ≤ x ∧ x ≤ h 59 1) → ∀ w p a g, lns (h 60) x.toNat (x.toNat + 2) (cs0 (h 60) x.toNat) 0 = (.bad w p, a) → Mb h w p g → K (0, -1) g) : am_C true L xs P (d + 4) 160 [(2, 59), (0, x)] h K := by
  refine eX12_charter (bX12_charter_0 ⟨fun z => bX12_charter_17 (H0 (fun y => by omega)), fun z => ⟨fun z2 => bX12_charter_20 ?_, fun z2 => bX12_charter_17 (H0 (fun y => by omega))⟩⟩)
  obtain ⟨n, hn⟩ : ∃ n : Nat, x = n := ⟨x.toNat, by omega⟩
  subst hn
  rw [Int.toNat_natCast] at Hok Hbad
  have Hok' := Hok ⟨by omega, z2⟩
  have Hbad' := Hbad ⟨by omega, z2⟩
  have n4 : n ≤ 400 := by omega
  generalize hg0 : am_st (am_st (am_st (am_st (am_st (am_st h 59 2 0) 59 26 (n : Int)) 59 1 0) 59 24 0) 59 25 (-1)) 59 27 0 = g0
  have f0 : Fc h g0 := by rw [← hg0]; exact (((((Fc.rf.st59 (by decide)).st59 (by decide)).st59 (by decide)).st59 (by decide)).st59 (by decide)).st59 (by decide)
  have e1 : g0 59 1 = 0 ∧ g0 59 24 = 0 ∧ g0 59 25 = -1 ∧ g0 59 26 = n ∧ g0 59 27 = 0 := by rw [← hg0]; simp [am_st]
  refine kX12_plain (d := d + 2) (fun g1 f1 a1 a2 a3 a4 a5 => ?_)
  have fc1 := f0.tr f1
  refine kX12_take (d := d + 1) (p := 0) (n := n) (by omega) n4 (by rw [a1 26 (by decide) (by decide)]; exact e1.2.2.2.1) (by rw [a1 27 (by decide) (by decide)]; exact e1.2.2.2.2) (by rw [fc1.o 71 (by decide) (by decide)]; exact hw) (fun g2 f2 t2 => ?_)
  have s60 : g1 60 = h 60 := fc1.o 60 (by decide) (by decide)
  rw [s60] at t2
  have fc2 := fc1.tr f2.fc
  have o (i : Nat) (hi : ¬ i = 59) : g2 i = g1 i := f2.1 i hi
  have q (j : Nat) (hj : ¬ (27 ≤ j ∧ j ≤ 30)) : g2 59 j = g1 59 j := f2.2 j hj
  have r2 : Mr (h 60) n 0 (cs0 (h 60) n) g2 := by
    refine ⟨by rw [o 60 (by decide)]; exact s60, by rw [q 26 (by decide), a1 26 (by decide) (by decide)]; exact e1.2.2.2.1, by rw [o 71 (by decide), fc1.o 71 (by decide) (by decide)]; exact hw, t2, by rw [q 32 (by decide)]; exact a2, fun j hj => by omega, by rw [o 73 (by decide)]; exact a4, fun k hk => ?_, by rw [q 37 (by decide)]; exact a3, fun k hk => by have : k < 0 := hk; omega, fun k i hk => by have : k < 0 := hk; omega, by rw [q 1 (by decide), a1 1 (by decide) (by decide)]; exact e1.1, by rw [q 24 (by decide), q 25 (by decide), a1 24 (by decide) (by decide), a1 25 (by decide) (by decide)]; exact ⟨e1.2.1, e1.2.2.1⟩⟩
    rw [o 74 (by decide), a5 k hk]
    exact ⟨Or.inl rfl, fun y => by omega, fun y => absurd y (by show ¬ False; exact id)⟩
  have key : ∀ (f : Nat) (c : Cs) (a : Nat) (v3 : am_V) (g : am_H), Cw (h 60) n c → n + 2 ≤ c.t.to + f ∨ (c.t.k = 0 ∧ 1 ≤ f) → a ≤ c.t.to → Fc h g → Mr (h 60) n (6 * c.np) c g → lns (h 60) n (n + 2) (cs0 (h 60) n) 0 = lns (h 60) n f c a → tX12_charter (h 0 0 + (0 : Nat)) L xs (am_C true L xs P (d + 3)) K 55 [(2, 59), (0, (n : Int)), (0, (a : Int)), v3] [] g := by
    intro f
    induction f with
    | zero => intro c a v3 g w hf; have := w.to; omega
    | succ f ih =>
      intro c a v3 g w hf ha fc r el
      have to := w.to
      have bad : ∀ (w' : Int) (p : Nat) (g' : am_H), lin (h 60) n c = .bad w' p → ¬ c.t.k = 0 → Mb h w' p g' → K (0, -1) g' := by
        intro w' p g' hl hk b
        refine Hbad' w' p a g' ?_ b
        rw [el]; simp only [lns]; rw [if_neg hk, hl]
      refine bX12_charter_55 ?_
      rw [r.tk.k]
      refine ⟨fun y => bX12_charter_165 (kX12_keep (d := d + 2) fc r w (fun g' mk => Hok' c a g' ?_ w mk)), fun y => ?_⟩
      · rw [el]; simp only [lns]; rw [if_pos y]
      · have b83 : ¬ (0 ≤ wd (h 60) c ∧ wd (h 60) c ≤ 6) → tX12_charter (h 0 0 + (0 : Nat)) L xs (am_C true L xs P (d + 3)) K 83 [(2, 59), (0, (n : Int)), (0, (a : Int)), v3] [] g := fun q => bX12_charter_83 (kX12_wrong' (d := d + 2) r (fun g' b => bad 1 c.t.fr g' (by unfold lin; rw [if_pos q]) y (b.fr fc)))
        refine ⟨fun y1 => b83 (fun q => y1 (wd_k (s := h 60) q.1)), fun y1 => ?_⟩
        have k1 : c.t.k = 1 := Classical.not_not.mp y1
        have ew := wd_w r k1
        rw [ew]
        refine kX12_isIn (d := d + 2) (fun q => ⟨fun p => absurd rfl p, fun _ => b83 q⟩) (fun q => ⟨fun _ => bX12_charter_91 ?_, fun p => absurd (by decide) p⟩)
        -- behind a line
        have aft : ∀ (c1 : Cs) (g' : am_H), lin (h 60) n c = .ok c1 → Fc h g' → Mr (h 60) n (6 * c1.np) c1 g' → tX12_charter (h 0 0 + (0 : Nat)) L xs (am_C true L xs P (d + 3)) K 132 [(2, 59), (0, (n : Int)), (0, (a : Int)), v3] [(0, 1)] g' := by
          intro c1 g' hl fc' r'
          have lw := lin_w w hl
          refine bX12_charter_132 ⟨fun _ => bX12_charter_139 ?_, fun p => absurd (by decide) p⟩
          rw [r'.tk.k]
          refine ⟨fun p => bX12_charter_155 (kX12_take' (d := d + 1) r' lw.1 n4 (fun g3 f3 r3 => ⟨by omega, ?_⟩)), fun p => kX12_wrong' (d := d + 2) r' (fun g3 b => Hbad' 1 c1.t.fr a g3 ?_ (b.fr fc'))⟩
          · have wa := lw.1.adv
            refine ih (adv (h 60) n c1) (a + 1) _ g3 wa.1 ?_ (by omega) (fc'.tr f3) r3 ?_
            · have h2 : n + 2 ≤ c.t.to + (f + 1) := hf.resolve_right (fun q => y q.1)
              exact Or.inl (by omega)
            · rw [el]; simp only [lns]; rw [if_neg y, hl]; dsimp only; rw [if_neg (fun q => q p)]
          · rw [el]; simp only [lns]; rw [if_neg y, hl]; dsimp only; rw [if_pos p]
        have aft0 : ∀ (w' : Int) (p : Nat) (g' : am_H), lin (h 60) n c = .bad w' p → Mb g w' p g' → tX12_charter (h 0 0 + (0 : Nat)) L xs (am_C true L xs P (d + 3)) K 132 [(2, 59), (0, (n : Int)), (0, (a : Int)), v3] [(0, 0)] g' := fun w' p g' hl b => bX12_charter_132 ⟨fun q => absurd rfl q, fun _ => bad w' p g' hl y (b.fr fc)⟩
        rw [ew]
        refine ⟨fun q1 => bX12_charter_106 ?_, fun q1 => ?_⟩
        · rw [ew]
          refine ⟨fun q2 => bX12_charter_122 ?_, fun q2 => ?_⟩
          · rw [ew]
            refine ⟨⟨by omega, by omega⟩, ?_⟩
            have hl : lin (h 60) n c = stg (h 60) n c (wd (h 60) c - 2).toNat := by unfold lin; rw [if_neg (fun p => p q), if_neg (by omega), if_neg q2]
            rw [show wd (h 60) c - 2 = (((wd (h 60) c - 2).toNat : Nat) : Int) by omega]
            refine kX12_numberRead (d := d) r w n4 (by omega) (fun c' g' hs f' r' => aft c' g' (by rw [hl]; exact hs) (fc.tr f') ?_) (fun w' p g' hs b => aft0 w' p g' (by rw [hl]; exact hs) b)
            have enp : c'.np = c.np := by
              unfold stg at hs
              split at hs
              · exact absurd hs (by simp)
              · split at hs
                · exact absurd hs (by simp)
                · split at hs
                  · exact absurd hs (by simp)
                  · injection hs with hs; subst hs; rfl
            rw [enp]; exact r'
          · have hl : lin (h 60) n c = brs (h 60) n (n + 2) (adv (h 60) n c) false := by unfold lin; rw [if_neg (fun p => p q), if_neg (by omega), if_pos (Classical.not_not.mp q2)]
            refine kX12_barRead (d := d) r w n4 (fun c' g' hs f' r' => aft c' g' (by rw [hl]; exact hs) (fc.tr f') ?_) (fun w' p g' hs b => aft0 w' p g' (by rw [hl]; exact hs) b)
            have enp : c'.np = (adv (h 60) n c).np := brs_np _ _ _ _ hs
            have enp : c'.np = c.np := enp
            rw [enp]; exact r'
        · have hl : lin (h 60) n c = prf (h 60) n c := by unfold lin; rw [if_neg (fun p => p q), if_pos (by omega)]
          exact kX12_proofRead (d := d) r w n4 (by omega) (fun c' g' hs f' r' => aft c' g' (by rw [hl]; exact hs) (fc.tr f') r') (fun w' p g' hs b => aft0 w' p g' (by rw [hl]; exact hs) b)
  exact key (n + 2) (cs0 (h 60) n) 0 _ g2 cs0_w (Or.inl (by omega)) (by omega) fc2 r2 rfl
end
