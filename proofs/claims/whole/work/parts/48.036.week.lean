/-! week: weeks go by -/
section
variable {L : Nat} {xs : Nat → Int} {P : Nat → List am_V → am_H → am_K → Prop} {d : Nat} {h : am_H} {Q : am_V → am_V → am_H → Prop} {K : am_K}
/-- the model's weeks with no cut of the wall -/
theorem kX12_weeks {N nb np nm : Nat} {x : Int} (hO : okL h N nb np nm) (hw : 0 ≤ h 59 5 ∧ h 59 5 ≤ 9999) (hR : 1 ≤ h 73 3) (Ha : ¬ ((0 ≤ x ∧ x ≤ 999) ∧ h 59 5 + x ≤ 9999) → K (0, -1) (am_t0 h)) (Hb : ((0 ≤ x ∧ x ≤ 999) ∧ h 59 5 + x ≤ 9999) → (h 59 5 + x) / h 73 3 ≤ h 59 5 / h 73 3 → K (0, h 59 5 + x) (am_st (am_t0 h) 59 5 (h 59 5 + x))) (Hc : ((0 ≤ x ∧ x ≤ 999) ∧ h 59 5 + x ≤ 9999) → ¬ (h 59 5 + x) / h 73 3 ≤ h 59 5 / h 73 3 → ∀ g r, MS (am_st (am_t0 h) 59 5 (h 59 5 + x)) g → LD N N nb np nm g → am_inI r → (∀ m, bt r m = true ↔ m < nm ∧ ¬ ∃ b, Km g nb b ∧ Nb g nb nm b m) → K (0, h 59 5 + x) (am_st g 59 6 r)) : am_C true L xs P (d + 7) 206 [(2, 59), (0, x)] h K := by
  have s5 : am_st h 59 2 0 59 5 = h 59 5 := st_nj (by decide)
  have s73 : am_st h 59 2 0 73 = h 73 := st_ne (by decide)
  refine eX12_weeks (bX12_weeks_0 (kX12_isIn (d := d + 5) (fun z => ?_) (fun z => ?_)))
  · exact ⟨fun _ => bX12_weeks_28 (Ha (fun y => z y.1)), fun y => absurd rfl y⟩
  · rw [s5]
    refine ⟨fun y => absurd y (by decide), fun _ => ⟨⟨by omega, by omega⟩, fun y => bX12_weeks_30 ?_, fun y => bX12_weeks_28 (Ha (fun q => y q.2))⟩⟩
    rw [s5, s73]
    show _ ∧ _ ∧ (_ ∧ 0 < h 73 3) ∧ _ ∧ (_ ∧ 0 < h 73 3) ∧ (((h 59 5 + x) / h 73 3 ≤ h 59 5 / h 73 3) → _) ∧ (¬ ((h 59 5 + x) / h 73 3 ≤ h 59 5 / h 73 3) → _)
    refine ⟨⟨by omega, by omega⟩, by decide, ⟨by omega, by omega⟩, by decide, ⟨by omega, by omega⟩, fun q => bX12_weeks_61 (bX12_weeks_62 ?_), fun q => bX12_weeks_62 ?_⟩
    · rw [s5]
      refine ⟨⟨by omega, by omega⟩, fun _ => bX12_weeks_93 ?_, fun q2 => absurd rfl q2⟩
      rw [st_at]
      exact Hb ⟨z, y⟩ q
    · have o1 : okL (am_st (am_st h 59 2 0) 59 5 (h 59 5 + x)) N nb np nm := by
        have o := hO.ms (MS.t0 (h := h))
        obtain ⟨⟨a, b, c, d, e⟩, h1, h2, h3, ⟨w1, w2, w3, w4⟩, h5, h6, h7, h8⟩ := o
        have t (j : Nat) (hj : ¬ j = 5) : am_st (am_st h 59 2 0) 59 5 (h 59 5 + x) 59 j = am_t0 h 59 j := st_nj hj
        have u (i : Nat) (hj : ¬ i = 59) : am_st (am_st h 59 2 0) 59 5 (h 59 5 + x) i = am_t0 h i := st_ne hj
        exact ⟨⟨by rw [t 3 (by decide)]; exact a, by rw [t 7 (by decide)]; exact b, by rw [t 9 (by decide)]; exact c, by rw [u 61 (by decide)]; exact d, by rw [u 62 (by decide)]; exact e⟩, by rw [t 11 (by decide)]; exact h1, h2, by rw [t 12 (by decide)]; exact h3, ⟨w1, by rw [u 63 (by decide), u 64 (by decide), u 65 (by decide)]; exact w2, by rw [u 63 (by decide), u 64 (by decide)]; exact w3, by rw [u 68 (by decide)]; exact w4⟩, by rw [t 31 (by decide)]; exact h5, h6, by rw [t 9 (by decide)]; exact h7, by rw [u 67 (by decide)]; exact h8⟩
      have n11 : am_st h 59 2 0 59 11 = N := by rw [st_nj (by decide)]; exact hO.notes
      rw [s5, n11]
      refine ⟨⟨by omega, by omega⟩, fun q2 => absurd q2 (by decide), fun _ => kX12_lay' (d := d + 1) (Nat.le_refl N) o1 (fun g m l => ?_)⟩
      have o2 := o1.ms m
      have hm := o2.ok.mn.2
      rw [o2.men] at hm
      refine kX12_missingNow (d := d) (by omega) o2.wm.nb10 o2.men o2.bodies (fun b hb => (l.k01 o2 b hb).1) (fun b hb => (l.k01 o2 b hb).2) (fun g' r e1 e2 e3 => bX12_weeks_93 ?_)
      have m2 := m.tr (MS.of e1 (by decide))
      rw [show am_st g' 59 6 r 59 5 = h 59 5 + x from by rw [st_nj (by decide), m2.2 5 (by decide) (by decide) (by decide), st_at]]
      refine Hc ⟨z, y⟩ q g' r m2 (l.fr e1.w83) e2 (fun m => ?_)
      rw [e3]
      have : ∀ b, (Km g nb b ∧ Nb g nb nm b m) ↔ (Km g' nb b ∧ Nb g' nb nm b m) := by
        intro b
        rw [Nb_fr (e1 81 (by decide)) (by rw [e1 59 (by decide)])]
        unfold Km; rw [e1 79 (by decide), e1 68 (by decide)]
      simp only [this]
theorem Inv.week {h g : am_H} (I : Inv h) (w : LkW g) (aN : agree DN h g) (aR : agree DR h g) (aP : agree DP h g) (aT : agree DT h g) (aF : agree DF h g) (aL : agree DL h g) (aY : agree DY h g) : Inv g := by
  obtain ⟨⟨N, nb, n⟩, ⟨nm, r⟩, ⟨c, np, nq, p, s⟩, t, f, l, y, _⟩ := I
  exact ⟨⟨N, nb, n.cg aN⟩, ⟨nm, r.cg aR⟩, ⟨c, np, nq, p.cg aP, s.cg p.hc aP⟩, t.cg aT, f.cg aF, l.cg aL, y.cg aY, w⟩
theorem pr_weeks {x : Int} (I : Inv h) (H : ∀ v g, Inv g → g 0 = h 0 → Q (0, v) (0, v) g) : am_C true L xs P (d + 24) 114 [(2, 1), (0, x)] h (fun r1 h1 => am_C true L xs P (d + 24) 206 [(2, 59), (0, x)] h1 (fun r2 h2 => Q r1 r2 h2)) := by
  obtain ⟨N, nb, a⟩ := I.n
  obtain ⟨nm, r⟩ := I.r
  obtain ⟨c, np, nq, p, s⟩ := I.p
  have wk := I.w.wk
  have w0 := I.w.w0
  have nope : ¬ ((0 ≤ x ∧ x ≤ 999) ∧ h 59 5 + x ≤ 9999) → am_C true L xs P (d + 24) 206 [(2, 59), (0, x)] h (fun r2 h2 => Q (0, -1) r2 h2) := fun z => kX12_weeks (d := d + 17) (lkL a r p) w0 s.r3.1 (fun _ => H _ _ (I.xs MS.t0.xs) (XS.h0 MS.t0.xs)) (fun z2 => absurd z2 z) (fun z2 => absurd z2 z)
  refine eX11_weeks (bX11_weeks_0 (kX11_within (d := d + 22) (fun z => ?_) (fun z => ?_)))
  · exact ⟨fun _ => bX11_weeks_23 (nope (fun y => z y.1)), fun y => absurd rfl y⟩
  · rw [wk]
    refine ⟨fun y => absurd y (by decide), fun _ => ⟨⟨by omega, by omega⟩, fun y => bX11_weeks_25 ?_, fun y => bX11_weeks_23 (nope (fun q => y q.2))⟩⟩
    rw [wk]
    refine ⟨⟨by omega, by omega⟩, ?_⟩
    have c1 : ∀ i, ¬ i = 1 → am_st h 1 9 (h 59 5 + x) i = h i := fun i hi => st_ne hi
    have A : ∀ D, nd D 1 9 = true → agree D h (am_st h 1 9 (h 59 5 + x)) := fun D q => agree.rf.st q
    have a1 := a.cg (A DN rfl)
    have r1 := r.cg (A DR rfl)
    have p1 := p.cg (A DP rfl)
    have e41 := p1.h41
    refine kX11_recut (d := d + 22) (c := c) (R := h 73 3) p.hc e41 (by rw [c1 _ (by have := p.hc; omega)]; exact s.se 3 (by decide)) s.r3.1 (by omega) (by omega) (fun q => ?_) (fun q => ?_)
    · refine ⟨fun _ => bX11_weeks_72 ?_, fun y2 => absurd rfl y2⟩
      refine kX12_weeks (d := d + 17) (lkL a1 r1 p1) (by rw [c1 59 (by decide)]; exact w0) (by rw [c1 73 (by decide)]; exact s.r3.1) (fun z2 => absurd ?_ z2) (fun _ _ => ?_) (fun _ z2 => absurd ?_ z2)
      · rw [c1 59 (by decide)]; exact ⟨z, y⟩
      · rw [c1 59 (by decide), st_at]
        have ag : ∀ D, nd D 1 9 = true → nd D 59 2 = true → nd D 59 5 = true → agree D h (am_st (am_t0 (am_st h 1 9 (h 59 5 + x))) 59 5 (h 59 5 + x)) := fun D q1 q2 q3 => ((agree.rf.st q1).t0 q2).st q3
        refine H _ _ (I.week ⟨?_, ?_, ?_⟩ (ag _ rfl rfl rfl) (ag _ rfl rfl rfl) (ag _ rfl rfl rfl) (ag _ rfl rfl rfl) (ag _ rfl rfl rfl) (ag _ rfl rfl rfl) (ag _ rfl rfl rfl)) ((ag [(0, none)] rfl rfl rfl).c 0 rfl)
        · unfold am_t0; simp [am_st]
        · rw [st_at]; omega
        · have : am_st (am_t0 (am_st h 1 9 (h 59 5 + x))) 59 5 (h 59 5 + x) 1 10 = h 1 10 := by unfold am_t0; simp [am_st]
          have t2 : am_st (am_t0 (am_st h 1 9 (h 59 5 + x))) 59 5 (h 59 5 + x) 59 6 = h 59 6 := by unfold am_t0; simp [am_st]
          rw [this, t2]; exact I.w.wl
      · rw [c1 59 (by decide), c1 73 (by decide)]; exact q
    · refine ⟨fun y2 => absurd y2 (by decide), fun _ => ?_⟩
      have e34 : am_st h 1 9 (h 59 5 + x) 34 4 = N := by rw [c1 34 (by decide)]; exact a.s1
      rw [e34]
      refine kX11_nameAll (d := d + 8) (lkC a1 r1 p1) (fun z2 => absurd ⟨by omega, by omega⟩ z2) (fun _ g1 na => ?_)
      rw [Int.toNat_natCast] at na
      have cs := na.cs
      refine kX11_missingMen (d := d + 21) r.m14 (by rw [cs 20 (by decide) (by decide) (by decide), c1 20 (by decide)]; exact r.m1) na.se (fun v vI vb => bX11_weeks_72 ?_)
      have X1 : ∀ D, nd D 1 9 = true → xok D = true → nd D 1 10 = true → agree D h (am_st g1 1 10 v) := fun D q1 q2 q3 => ((A D q1).tr (cs.xs.ag q2)).st q3
      have g59 : am_st g1 1 10 v 59 = h 59 := by rw [st_ne (by decide), cs 59 (by decide) (by decide) (by decide), c1 59 (by decide)]
      have g73 : am_st g1 1 10 v 73 = h 73 := by rw [st_ne (by decide), cs 73 (by decide) (by decide) (by decide), c1 73 (by decide)]
      have g19 : am_st g1 1 10 v 1 9 = h 59 5 + x := by rw [st_nj (by decide), cs 1 (by decide) (by decide) (by decide), st_at]
      refine kX12_weeks (d := d + 17) (lkL (a.cg (X1 DN rfl rfl rfl)) (r.cg (X1 DR rfl rfl rfl)) (p.cg (X1 DP rfl rfl rfl))) (by rw [g59]; exact w0) (by rw [g73]; exact s.r3.1) (fun z2 => absurd ?_ z2) (fun _ z2 => absurd ?_ q) (fun _ _ g2 u ms ld uI ub => ?_)
      · rw [g59]; exact ⟨z, y⟩
      · rw [g59, g73] at z2; exact z2
      · rw [g59, g19]
        rw [g59] at ms
        have X2 : ∀ D, nd D 1 9 = true → xok D = true → nd D 1 10 = true → nd D 59 2 = true → nd D 59 5 = true → agree D h g2 := fun D q1 q2 q3 q4 q5 => (((X1 D q1 q2 q3).t0 q4).st q5).tr (ms.xs.ag q2)
        have gi : ∀ i, 2 ≤ i → i < 52 → ¬ i = 33 → g2 i = g1 i := by
          intro i h1 h2 _
          rw [ms.1 i (by omega) (by omega), st_ne (by omega)]
          show am_st (am_st g1 1 10 v) 59 2 0 i = g1 i
          rw [st_ne (by omega), st_ne (by omega)]
        have ng2 := na.ng.fr3 p.hc gi
        have e : v = u := lk_miss (Nat.le_refl N) (a.cg (X2 DN rfl rfl rfl rfl rfl)) (r.cg (X2 DR rfl rfl rfl rfl rfl)) (p.cg (X2 DP rfl rfl rfl rfl rfl)) ng2 ld vI uI (by rw [gi 48 (by decide) (by decide) (by decide)]; exact vb) ub
        have ag : ∀ D, nd D 1 9 = true → xok D = true → nd D 1 10 = true → nd D 59 2 = true → nd D 59 5 = true → nd D 59 6 = true → agree D h (am_st g2 59 6 u) := fun D q1 q2 q3 q4 q5 q6 => (X2 D q1 q2 q3 q4 q5).st q6
        have G1 : g2 1 = am_st g1 1 10 v 1 := by
          rw [ms.1 1 (by decide) (by decide), st_ne (by decide)]
          show am_st (am_st g1 1 10 v) 59 2 0 1 = _
          rw [st_ne (by decide)]
        refine H _ _ (I.week ⟨?_, ?_, ?_⟩ (ag _ rfl rfl rfl rfl rfl rfl) (ag _ rfl rfl rfl rfl rfl rfl) (ag _ rfl rfl rfl rfl rfl rfl) (ag _ rfl rfl rfl rfl rfl rfl) (ag _ rfl rfl rfl rfl rfl rfl) (ag _ rfl rfl rfl rfl rfl rfl) (ag _ rfl rfl rfl rfl rfl rfl)) ((ag [(0, none)] rfl rfl rfl rfl rfl rfl).c 0 rfl)
        · rw [st_ne (by decide), G1, g19, st_nj (by decide), ms.2 5 (by decide) (by decide) (by decide), st_at]
        · rw [st_nj (by decide), ms.2 5 (by decide) (by decide) (by decide), st_at]; omega
        · rw [st_ne (by decide), G1, st_at, st_at]; exact e
end
