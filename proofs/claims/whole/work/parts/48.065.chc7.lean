/-! chc7: charters, class and model -/
theorem Inv.chrt {h g : am_H} (I : Inv h) (t : LkT g) (f : LkF g) (p : ∃ c np nq, LkP g c np ∧ LkS g c nq) (aN : agree DN h g) (aR : agree DR h g) (aL : agree DL h g) (aY : agree DY h g) (aW : agree DW h g) : Inv g := by
  obtain ⟨⟨N, nb, n⟩, ⟨nm, r⟩, _, _, _, l, y, w⟩ := I
  exact ⟨⟨N, nb, n.cg aN⟩, ⟨nm, r.cg aR⟩, p, t, f, l.cg aL, y.cg aY, w.cg aW⟩
/-- what a charter leaves as it was -/
def XC (h g : am_H) : Prop := (∀ i, ¬ i = 1 → ¬ i = 2 → ¬ (4 ≤ i ∧ i ≤ 16) → ¬ i = 59 → ¬ (72 ≤ i ∧ i ≤ 76) → g i = h i) ∧ (∀ j, ¬ j = 11 → ¬ j = 12 → g 1 j = h 1 j) ∧ (∀ j, ¬ (j = 1 ∨ j = 2 ∨ (24 ≤ j ∧ j ≤ 32) ∨ j = 36 ∨ j = 37) → g 59 j = h 59 j)
theorem XC.o {h g : am_H} (s_ : XC h g) : ∀ i, ¬ i = 1 → ¬ i = 2 → ¬ (4 ≤ i ∧ i ≤ 16) → ¬ i = 59 → ¬ (72 ≤ i ∧ i ≤ 76) → g i = h i := s_.1
theorem XC.c1 {h g : am_H} (s_ : XC h g) : ∀ j, ¬ j = 11 → ¬ j = 12 → g 1 j = h 1 j := s_.2.1
theorem XC.m {h g : am_H} (s_ : XC h g) : ∀ j, ¬ (j = 1 ∨ j = 2 ∨ (24 ≤ j ∧ j ≤ 32) ∨ j = 36 ∨ j = 37) → g 59 j = h 59 j := s_.2.2
theorem XC.ag {h g : am_H} (x : XC h g) (D : List (Nat × Option Nat)) (hD : D.all (fun p => !(p.1 == 2) && !(4 ≤ p.1 && p.1 ≤ 16) && !(72 ≤ p.1 && p.1 ≤ 76) && (!(p.1 == 1) || (match p.2 with | none => false | some i => !(i == 11) && !(i == 12))) && (!(p.1 == 59) || (match p.2 with | none => false | some i => !(i == 1) && !(i == 2) && !(24 ≤ i && i ≤ 32) && !(i == 36) && !(i == 37)))) = true) : agree D h g := by
  intro p hp
  have y := (List.all_eq_true.mp hD) p hp
  revert y
  cases p.2 with
  | none =>
    intro y
    simp at y
    exact x.o p.1 (by omega) (by omega) (by omega) (by omega) (by omega)
  | some i =>
    intro y
    simp at y
    show g p.1 i = h p.1 i
    by_cases e : p.1 = 59
    · rw [e]
      have := y.2.resolve_left (fun z => z e)
      exact x.m i (by omega)
    · by_cases e1 : p.1 = 1
      · rw [e1]
        have := y.1.2.resolve_left (fun z => z e1)
        exact x.c1 i this.1 this.2
      · rw [x.o p.1 e1 (by omega) (by omega) e (by omega)]
section
variable {L : Nat} {xs : Nat → Int} {P : Nat → List am_V → am_H → am_K → Prop} {d : Nat} {h : am_H} {K : am_K} {Q : am_V → am_V → am_H → Prop}
theorem pr_charter {x : Int} (hP : LWP P) (I : Inv h) (H : ∀ v g, Inv g → g 0 = h 0 → Q (0, v) (0, v) g) : am_C true L xs P (d + 24) 103 [(2, 1), (0, x)] h (fun r1 h1 => am_C true L xs P (d + 24) 160 [(2, 59), (0, x)] h1 (fun r2 h2 => Q r1 r2 h2)) := by
  obtain ⟨F, np, nq, p, s⟩ := I.p
  have t := I.t
  have in4 := t.in4
  have sz := t.sz
  have hF := p.hc
  obtain ⟨D, hD⟩ : ∃ D, D = 16 - F := ⟨_, rfl⟩
  refine eX11_charter (bX11_charter_0 (kX8_holds (d := d + 22) (fun z => ⟨fun q => absurd rfl q, fun _ => ?_⟩) (fun z => ⟨fun _ => bX11_charter_14 ?_, fun q => absurd (by decide) q⟩)))
  · exact kX12_charter (d := d + 20) in4 s.wd (fun _ => H _ _ (I.xs MS.t0.xs) (XS.h0 MS.t0.xs)) (fun q => by omega) (fun q => by omega)
  · obtain ⟨n, hn⟩ : ∃ n : Nat, x = n := ⟨x.toNat, by omega⟩
    subst hn
    refine kX1_parse (d := d + 16) hF hD hP p.h41 (by rw [s.dr]; omega) (by omega) (fun c a g hl w fd r => ?_) (fun w q a g hl b => ?_)
    · generalize hg1 : am_st (am_st (am_st (am_st (am_st g 4 1 (D : Int)) 4 2 (F : Int)) 2 1 0) 1 11 (am_st (am_st g 4 1 (D : Int)) 4 2 (F : Int) 4 8)) 1 12 (am_st (am_st g 4 1 (D : Int)) 4 2 (F : Int) 4 9) = g1
      have o1 : ∀ i, ¬ i = 1 → ¬ i = 2 → ¬ i = 4 → g1 i = g i := fun i a1 a2 a4 => by rw [← hg1, st_ne a1, st_ne a1, st_ne a2, st_ne a4, st_ne a4]
      have oh : ∀ i, ¬ i = 1 → ¬ i = 2 → ¬ (4 ≤ i ∧ i ≤ 16) → g1 i = h i := fun i a1 a2 a3 => by rw [o1 i a1 a2 (by omega), fd.1 i (by omega) (by omega)]
      have e59 : g1 59 = h 59 := oh 59 (by decide) (by decide) (by decide)
      have e60 : g1 60 = sgn h := by rw [oh 60 (by decide) (by decide) (by decide)]; exact t.sgn.symm
      have sr := lns_sr _ _ _ _ _ cs0_sr hl
      refine kX12_charter (d := d + 20) (by rw [e59]; exact in4) (by rw [oh 71 (by decide) (by decide) (by decide)]; exact s.wd) (fun q => absurd (by rw [e59, ← sz]; exact z) q) (fun _ c2 a2 g3 hl2 w2 mk => ?_) (fun _ w2 p2 a2 g3 hl2 b2 => ?_)
      · rw [e60, Int.toNat_natCast, hl] at hl2
        injection hl2 with y1 y2
        injection y1 with y1
        subst y1; subst y2
        have x1 : XC h g3 := ⟨fun i a1 a2 a3 a4 a5 => by rw [mk.o i a4 a5, oh i a1 a2 a3], fun j a1 a2 => by rw [mk.o 1 (by decide) (by decide), ← hg1, st_nj a2, st_nj a1, st_ne (by decide), st_ne (by decide), st_ne (by decide), fd.1 1 (by decide) (by omega)], fun j hj => by rw [mk.f j hj, e59]⟩
        have o3 : ∀ i, 4 < i → i ≤ 16 → g3 i = g i := fun i a1 a2 => by rw [mk.o i (by omega) (by omega), o1 i (by omega) (by omega) (by omega)]
        have lt : LkT g3 := ⟨by rw [mk.z1, mk.o 2 (by decide) (by decide), ← hg1, st_ne (by decide), st_ne (by decide), st_at], by rw [mk.z1]; decide, fun j => by rw [x1.o 3 (by decide) (by decide) (by decide) (by decide) (by decide), x1.o 60 (by decide) (by decide) (by decide) (by decide) (by decide)]; exact t.sg j⟩
        have lf : LkF g3 := by
          refine ⟨?_, ?_⟩
          · rw [mk.z24.1, mk.o 1 (by decide) (by decide), ← hg1, st_nj (by decide), st_at, st_nj (by decide), st_nj (by decide)]; exact r.f0.1
          · rw [mk.z24.2, mk.o 1 (by decide) (by decide), ← hg1, st_at, st_nj (by decide), st_nj (by decide)]; exact r.f0.2
        have e4 : g3 4 = am_st (am_st g 4 1 (D : Int)) 4 2 (F : Int) 4 := by rw [mk.o 4 (by decide) (by decide), ← hg1, st_ne (by decide), st_ne (by decide), st_ne (by decide)]
        have lp : LkP g3 D c.np := by
          refine ⟨by omega, by rw [e4, st_nj (by decide), st_at], by rw [o3 D (by omega) (by omega)]; exact r.np, mk.np, w.np, fun l hl => ?_⟩
          obtain ⟨y1, y2, y3, y4, y5, y6⟩ := r.pl l hl
          have m72 : ∀ j, j < 6 → g3 72 (0 + 6 * l + j) = c.pr (6 * l + j) := fun j hj => by rw [Nat.zero_add]; exact mk.pr _ (by omega)
          refine ⟨?_, ?_, ?_, ?_, ?_, ?_⟩
          · have := m72 0 (by decide)
            rw [o3 (D + 2) (by omega) (by omega), show 0 + 6 * l = 0 + 6 * l + 0 from rfl, this]; exact y1
          · rw [o3 (D + 4) (by omega) (by omega), m72 5 (by decide)]; exact y2
          · rw [o3 (D + 3) (by omega) (by omega), m72 1 (by decide)]; exact y3
          · rw [o3 (D + 3) (by omega) (by omega), m72 2 (by decide)]; exact y4
          · rw [o3 (D + 3) (by omega) (by omega), m72 3 (by decide)]; exact y5
          · rw [o3 (D + 3) (by omega) (by omega), m72 4 (by decide)]; exact y6
        have s0 := sr 0 (by decide)
        have s1 := sr 1 (by decide)
        have s2 := sr 2 (by decide)
        have s3 := sr 3 (by decide)
        have ls : LkS g3 D c.nq := by
          refine ⟨by rw [e4, st_at]; omega, fun k hk => by rw [o3 (D + 1) (by omega) (by omega), r.se k hk, mk.se k hk], by rw [mk.se 0 (by decide)]; exact s0, by rw [mk.se 1 (by decide)]; exact s1, by rw [mk.se 2 (by decide)]; exact s2, by rw [mk.se 3 (by decide)]; exact s3, by rw [o3 D (by omega) (by omega)]; exact r.nq, mk.nq, w.nq, fun k hk => ?_, fun i hi => by rw [x1.o 71 (by decide) (by decide) (by decide) (by decide) (by decide)]; exact s.wd i hi⟩
          obtain ⟨b1, b2, b3⟩ := w.bz k hk
          have m75 : g3 75 (0 + k) = c.bz k := by rw [Nat.zero_add]; exact mk.bz k hk
          have m76 : ∀ i, i < c.bz k → g3 76 (0 + 8 * k + i) = c.bl (8 * k + i) := fun i hi => by rw [Nat.zero_add]; exact mk.bl k i hk hi
          refine ⟨by rw [m75]; omega, fun i hi => ?_, ?_⟩
          · rw [m75] at hi
            rw [m76 i (by omega)]; exact b3 i (by omega)
          · rw [m75, Int.toNat_natCast, o3 (D + 5) (by omega) (by omega), r.br k hk]
            exact wc_congr (fun i hi => (m76 i hi).symm)
        exact H _ _ (I.chrt lt lf ⟨D, c.np, c.nq, lp, ls⟩ (x1.ag _ rfl) (x1.ag _ rfl) (x1.ag _ rfl) (x1.ag _ rfl) (x1.ag _ rfl)) (x1.o 0 (by decide) (by decide) (by decide) (by decide) (by decide))
      · exfalso
        rw [e60, Int.toNat_natCast, hl] at hl2
        injection hl2 with y1 y2
        exact absurd y1 (by simp)
    · generalize hg1 : am_st (am_st (am_st g 2 1 0) 1 11 (g 4 8)) 1 12 (g 4 9) = g1
      have fd := b.fd
      have o1 : ∀ i, ¬ i = 1 → ¬ i = 2 → g1 i = g i := fun i a1 a2 => by rw [← hg1, st_ne a1, st_ne a1, st_ne a2]
      have oh : ∀ i, ¬ i = 1 → ¬ i = 2 → ¬ i = 4 → ¬ (D ≤ i ∧ i ≤ D + 5) → g1 i = h i := fun i a1 a2 a3 a4 => by rw [o1 i a1 a2, fd.1 i a3 a4]
      have e59 : g1 59 = h 59 := oh 59 (by decide) (by decide) (by decide) (by omega)
      have e60 : g1 60 = sgn h := by rw [oh 60 (by decide) (by decide) (by decide) (by omega)]; exact t.sgn.symm
      refine kX12_charter (d := d + 20) (by rw [e59]; exact in4) (by rw [oh 71 (by decide) (by decide) (by decide) (by omega)]; exact s.wd) (fun q => absurd (by rw [e59, ← sz]; exact z) q) (fun _ c2 a2 g3 hl2 w2 mk => ?_) (fun _ w2 p2 a2 g3 hl2 b2 => ?_)
      · exfalso
        rw [e60, Int.toNat_natCast, hl] at hl2
        injection hl2 with y1 y2
        exact absurd y1 (by simp)
      · rw [e60, Int.toNat_natCast, hl] at hl2
        injection hl2 with y1 y2
        injection y1 with y1; injection y1 with y1 y3
        subst y1; subst y3
        have fc := b2.fc
        have x1 : XC h g3 := ⟨fun i a1 a2 a3 a4 a5 => by rw [fc.o i a4 a5, oh i a1 a2 (by omega) (by omega)], fun j a1 a2 => by rw [fc.o 1 (by decide) (by decide), ← hg1, st_nj a2, st_nj a1, st_ne (by decide), fd.1 1 (by decide) (by omega)], fun j hj => by rw [fc.f j (by omega), e59]⟩
        have o3 : ∀ i, 4 < i → i ≤ 16 → ¬ (D ≤ i ∧ i ≤ D + 5) → g3 i = h i := fun i a1 a2 a3 => by rw [fc.o i (by omega) (by omega), oh i (by omega) (by omega) (by omega) a3]
        have lt : LkT g3 := ⟨by rw [b2.z1, fc.o 2 (by decide) (by decide), ← hg1, st_ne (by decide), st_ne (by decide), st_at], by rw [b2.z1]; decide, fun j => by rw [x1.o 3 (by decide) (by decide) (by decide) (by decide) (by decide), x1.o 60 (by decide) (by decide) (by decide) (by decide) (by decide)]; exact t.sg j⟩
        have lf : LkF g3 := by
          refine ⟨?_, ?_⟩
          · rw [b2.w, fc.o 1 (by decide) (by decide), ← hg1, st_nj (by decide), st_at]; exact b.ew
          · rw [b2.p, fc.o 1 (by decide) (by decide), ← hg1, st_at]; exact b.ep
        have e4 : ∀ j, j < 3 → g3 4 j = h 4 j := fun j hj => by rw [fc.o 4 (by decide) (by decide), o1 4 (by decide) (by decide), fd.2 j hj]
        have p12 := p.p12
        have lp : LkP g3 F np := by
          refine ⟨hF, by rw [e4 1 (by decide)]; exact p.h41, by rw [o3 F (by omega) (by omega) (by omega)]; exact p.p1, by rw [fc.f 31 (by decide), e59]; exact p.p2, p.p12, fun l hl => ?_⟩
          obtain ⟨y1, y2, y3, y4, y5, y6⟩ := p.pl l hl
          have m72 : ∀ j, j < 6 → g3 72 (0 + 6 * l + j) = h 72 (0 + 6 * l + j) := fun j hj => by rw [fc.p _ (by omega), oh 72 (by decide) (by decide) (by decide) (by omega)]
          refine ⟨?_, ?_, ?_, ?_, ?_, ?_⟩
          · have := m72 0 (by decide)
            rw [o3 (F + 2) (by omega) (by omega) (by omega), show 0 + 6 * l = 0 + 6 * l + 0 from rfl, this]; exact y1
          · rw [o3 (F + 4) (by omega) (by omega) (by omega), m72 5 (by decide)]; exact y2
          · rw [o3 (F + 3) (by omega) (by omega) (by omega), m72 1 (by decide)]; exact y3
          · rw [o3 (F + 3) (by omega) (by omega) (by omega), m72 2 (by decide)]; exact y4
          · rw [o3 (F + 3) (by omega) (by omega) (by omega), m72 3 (by decide)]; exact y5
          · rw [o3 (F + 3) (by omega) (by omega) (by omega), m72 4 (by decide)]; exact y6
        have m73 : ∀ j, j < 4 → g3 73 j = h 73 j := fun j hj => by rw [fc.s j hj, oh 73 (by decide) (by decide) (by decide) (by omega)]
        have n8 := s.n8
        have ls : LkS g3 F nq := by
          refine ⟨by rw [e4 2 (by decide)]; exact s.dr, fun k hk => by rw [o3 (F + 1) (by omega) (by omega) (by omega), m73 k hk]; exact s.se k hk, by rw [m73 0 (by decide)]; exact s.r0, by rw [m73 1 (by decide)]; exact s.r1, by rw [m73 2 (by decide)]; exact s.r2, by rw [m73 3 (by decide)]; exact s.r3, by rw [o3 F (by omega) (by omega) (by omega)]; exact s.n1, by rw [fc.f 36 (by decide), e59]; exact s.n2, n8, fun k hk => ?_, fun i hi => by rw [x1.o 71 (by decide) (by decide) (by decide) (by decide) (by decide)]; exact s.wd i hi⟩
          obtain ⟨b1, b2', b3⟩ := s.br k hk
          have m75 : g3 75 (0 + k) = h 75 (0 + k) := by rw [fc.b _ (by omega), oh 75 (by decide) (by decide) (by decide) (by omega)]
          have m76 : ∀ i : Nat, i < 8 → g3 76 (0 + 8 * k + i) = h 76 (0 + 8 * k + i) := fun i hi => by rw [fc.l _ (by omega), oh 76 (by decide) (by decide) (by decide) (by omega)]
          refine ⟨by rw [m75]; exact b1, fun i hi => ?_, ?_⟩
          · rw [m75] at hi
            rw [m76 i (by omega)]; exact b2' i hi
          · rw [m75, o3 (F + 5) (by omega) (by omega) (by omega), b3]
            exact wc_congr (fun i hi => (m76 i (by omega)).symm)
        exact H _ _ (I.chrt lt lf ⟨F, np, nq, lp, ls⟩ (x1.ag _ rfl) (x1.ag _ rfl) (x1.ag _ rfl) (x1.ag _ rfl) (x1.ag _ rfl)) (x1.o 0 (by decide) (by decide) (by decide) (by decide) (by decide))
end
