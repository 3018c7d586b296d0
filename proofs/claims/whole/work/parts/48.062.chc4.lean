/-! chc4: the class reads a proof; written by q_chc4.py -/
def m1 (v : Int) : Nat := if v = -1 then 0 else 1
def Mt5 (pr : Nat → Int) (np : Nat) : Nat := m1 (pr (6 * np + 1 + 0)) + m1 (pr (6 * np + 1 + 1)) + m1 (pr (6 * np + 1 + 2)) + m1 (pr (6 * np + 1 + 3)) + m1 (pr (6 * np + 1 + 4))
theorem m1_le (v : Int) : m1 v ≤ 1 := by unfold m1; split <;> omega
theorem Mt5_le (pr : Nat → Int) (np : Nat) : Mt5 pr np ≤ 5 := by
  have a0 := m1_le (pr (6 * np + 1 + 0))
  have a1 := m1_le (pr (6 * np + 1 + 1))
  have a2 := m1_le (pr (6 * np + 1 + 2))
  have a3 := m1_le (pr (6 * np + 1 + 3))
  have a4 := m1_le (pr (6 * np + 1 + 4))
  unfold Mt5
  omega
theorem Mt5_up {pr : Nat → Int} {np t : Nat} {v : Int} (ht : t ≤ 4) (h : pr (6 * np + 1 + t) = -1) (hv : ¬ v = -1) : Mt5 (up pr (6 * np + 1 + t) v) np = Mt5 pr np + 1 := by
  have a : ∀ q, m1 (up pr (6 * np + 1 + t) v (6 * np + 1 + q)) = m1 (pr (6 * np + 1 + q)) + (if q = t then 1 else 0) := by
    intro q
    by_cases e : q = t
    · rw [e, up_at, h, if_pos rfl]; unfold m1; rw [if_neg hv, if_pos rfl]
    · rw [up_ne (by omega), if_neg e]; rfl
  unfold Mt5
  rw [a 0, a 1, a 2, a 3, a 4]
  have : t = 0 ∨ t = 1 ∨ t = 2 ∨ t = 3 ∨ t = 4 := by omega
  rcases this with e | e | e | e | e <;> subst e <;> simp <;> omega
theorem tst1_w {s : Nat → Int} {n f : Nat} {c c' : Cs} (w : Cw s n c) (hf : Fz n c (f + 1)) (h : tst1 s n c = .ok c') : Cw s n c' ∧ c'.np = c.np ∧ Mt5 c'.pr c.np = Mt5 c.pr c.np + 1 ∧ Fz n c' f := by
  unfold tst1 at h
  by_cases h7 : 7 ≤ wd s c
  · rw [if_pos h7] at h
    have wb := wd_bnd (s := s) (c := c)
    have t4 : tst s c ≤ 4 := by unfold tst; omega
    have hk : c.t.k = 1 := wd_k (s := s) (by omega)
    have wa := w.adv
    by_cases hp : ¬ c.pr (6 * c.np + 1 + tst s c) = -1
    · rw [if_pos hp] at h; exact absurd h (by simp)
    · rw [if_neg hp] at h
      have hp' := Classical.not_not.mp hp
      have fa := Fz_adv w (by omega) hf
      by_cases h12 : tst s c = 1 ∨ tst s c = 2
      · rw [if_pos h12] at h
        injection h with h
        subst h
        exact ⟨wa.1.pr, rfl, Mt5_up t4 hp' (by decide), fa.mono rfl⟩
      · rw [if_neg h12] at h
        by_cases hk2 : ¬ (adv s n c).t.k = 2
        · rw [if_pos hk2] at h; exact absurd h (by simp)
        · rw [if_neg hk2] at h
          have wb := wa.1.adv
          have st := adv_to w (by omega)
          by_cases hr : ¬ (ltv (tst s c) ≤ nmv s (adv s n c) ∧ nmv s (adv s n c) ≤ htv (tst s c))
          · rw [if_pos hr] at h; exact absurd h (by simp)
          · rw [if_neg hr] at h
            have fb : Fz n (adv s n (adv s n c)) f := by
              have h2 : n + 2 ≤ (adv s n c).t.to + f := fa.resolve_left (fun q => by omega)
              have t2 := wa.1.to
              by_cases e : (adv s n (adv s n c)).t.k = 0
              · exact Or.inl ⟨e, by omega⟩
              · have := adv_to wa.1 e; exact Or.inr (by omega)
            have hr' := Classical.not_not.mp hr
            have l0 : 0 ≤ ltv (tst s c) := by unfold ltv; split <;> decide
            injection h with h
            subst h
            exact ⟨wb.1.pr, rfl, Mt5_up t4 hp' (by omega), fb.mono rfl⟩
  · rw [if_neg h7] at h; exact absurd h (by simp)
theorem tests_any {s : Nat → Int} {n f : Nat} {c : Cs} (h7 : ¬ 7 ≤ wd s c) : tests s n (f + 1) c true = .ok (setnp c) := by simp only [tests]; rw [if_neg h7]; rfl
theorem tests_non {s : Nat → Int} {n f : Nat} {c : Cs} (h7 : ¬ 7 ≤ wd s c) : tests s n (f + 1) c false = .bad 1 c.t.fr := by simp only [tests]; rw [if_neg h7]; rfl
theorem tests_bd {s : Nat → Int} {n f : Nat} {c : Cs} {w : Int} {p : Nat} (h : tst1 s n c = .bad w p) : tests s n (f + 1) c true = .bad w p ∨ (tests s n (f + 1) c true = .ok (setnp c) ∧ w = 1 ∧ p = c.t.fr) := by
  by_cases h7 : 7 ≤ wd s c
  · exact Or.inl (tests_bad h7 h)
  · rw [tst1_7 h7] at h
    injection h with h; injection h with h1 h2
    exact Or.inr ⟨tests_any h7, h1.symm, h2.symm⟩
theorem tests_bd0 {s : Nat → Int} {n f : Nat} {c : Cs} {w : Int} {p : Nat} (h : tst1 s n c = .bad w p) : tests s n (f + 1) c false = .bad w p := by
  by_cases h7 : 7 ≤ wd s c
  · exact tests_bad h7 h
  · rw [tst1_7 h7] at h
    rw [tests_non h7]; exact h
/-- what a line may find amiss: within, or that no semicolon stands behind -/
def Rb (x : Rs) (w : Int) (p : Nat) : Prop := x = .bad w p ∨ ∃ c1, x = .ok c1 ∧ ¬ c1.t.k = 3 ∧ w = 1 ∧ p = c1.t.fr
section
variable {L : Nat} {xs : Nat → Int} {P : Nat → List am_V → am_H → am_K → Prop} {d : Nat} {h : am_H} {K : am_K} {s : Nat → Int} {n m : Nat} {c : Cs}
theorem kX1_parseProof_0 {wi : Nat} (hP : LWP P) (r : Cr s n 5 c.np c h) (w : Cw s n c) (hn : n ≤ 400) (hwi : wd s c = wi) (h1 : wi ≤ 1) (Hbad : ∀ w' p g, Rb (prf s n c) w' p → Cb n 5 h w' p g → K (9, 0) g) (Hok : ∀ c' g, prf s n c = .ok c' → Cw s n c' → Fdr 5 h g → Cr s n 5 c'.np c' g → K (9, 0) g) : am_C true L xs P (d + 6) 11 [(2, 4), (4, (wi : Int))] h K := by
  have np12 := w.np
  have wa := w.adv
  refine eX1_parseProof_1 (bX1_parseProof_0_1 ?_)
  rw [r.dr]
  refine bX1_parseProof_4_2 ?_
  rw [r.np]
  refine ⟨fun z => bX1_parseProof_18_1 ?_, fun z => kX1_ref (d := d + 4) r w (by decide) (fun g b => Hbad 2 _ g (Or.inl ?_) b)⟩
  rotate_left
  · unfold prf; rw [if_pos (by omega)]
  rw [r.dr]
  have hnp : c.np ≤ 11 := by omega
  have hprf : prf s n c = tests s n (n + 2) (setpr (adv s n c) (row0 c.pr c.np (wd s c))) false := by unfold prf; rw [if_neg (by omega)]
  obtain ⟨_, _, _, wa2, _⟩ := word_all ⟨wi, by omega⟩
  dsimp only at wa2
  have e1 := wa2 h1
  -- the loop
  have loop : ∀ (k f : Nat) (c1 : Cs) (g : am_H) (x : Int), Mt5 c1.pr c1.np + k = 5 → 1 ≤ Mt5 c1.pr c1.np → c1.np = c.np → Cw s n c1 → Fz n c1 f → tests s n f c1 true = prf s n c → Fdr 5 h g → Cr s n 5 (c1.np + 1) c1 g → (∀ t, t < 5 → (bt x t = true ↔ ¬ c1.pr (6 * c1.np + 1 + t) = -1)) → tX1_parseProof (h 0 0 + (0 : Nat)) L xs (am_C true L xs P (d + 5)) K 50 [(2, 4), (4, (wi : Int)), (0, x), (0, ((Mt5 c1.pr c1.np - 1 : Nat) : Int))] [] g := by
    intro k
    induction k with
    | zero =>
      intro f c1 g x hM hM1 enp w1 hf ht fd r1 hx
      obtain ⟨f', rfl⟩ : ∃ f', f = f' + 1 := ⟨f - 1, by have := hf.pos w1; omega⟩
      refine bX1_parseProof_50_1 ⟨fun y => by omega, fun _ => ⟨fun y => absurd r1.f0.1 y, fun _ => ⟨fun y => bX1_parseProof_82_1 ?_, fun y => ?_⟩⟩⟩
      · rw [r1.k] at y
        have nw : ¬ 7 ≤ wd s c1 := fun q => y (wd_k (s := s) (by omega))
        exact Hok (setnp c1) g (by rw [← ht]; exact tests_any nw) ⟨w1.fr, w1.to, w1.ad, w1.k4, w1.sm, by show c1.np + 1 ≤ 12; omega, w1.nq, w1.bz, w1.dg⟩ fd ⟨r1.s3, r1.ln, r1.k, r1.fr, r1.to, r1.f0, r1.dr, r1.np, r1.pl, r1.se, r1.td, r1.nq, r1.br⟩
      · refine kX1_parseTest_0 (d := d) hP r1 w1 (by omega) hn hx (fun w' p g2 v hb b => ⟨⟨by omega, by omega⟩, ?_⟩) (fun c2 g2 v hok f2 r2 hx2 => ?_)
        · refine bX1_parseProof_50_1 ⟨fun _ => ?_, fun _ => ⟨fun _ => ?_, fun q => absurd (by rw [b.ew]; exact b.nz) q⟩⟩
          · refine bX1_parseProof_82_1 (Hbad w' p g2 ?_ (b.fr fd))
            rcases tests_bd (f := f') hb with e | ⟨e, e2, e3⟩
            · exact Or.inl (by rw [← ht]; exact e)
            · exact Or.inr ⟨setnp c1, by rw [← ht]; exact e, by show ¬ c1.t.k = 3; rw [r1.k] at y; omega, e2, e3⟩
          · refine bX1_parseProof_82_1 (Hbad w' p g2 ?_ (b.fr fd))
            rcases tests_bd (f := f') hb with e | ⟨e, e2, e3⟩
            · exact Or.inl (by rw [← ht]; exact e)
            · exact Or.inr ⟨setnp c1, by rw [← ht]; exact e, by show ¬ c1.t.k = 3; rw [r1.k] at y; omega, e2, e3⟩
        · exfalso
          have q := tst1_w (f := f') w1 hf hok
          have := Mt5_le c2.pr c1.np
          omega
    | succ k ih =>
      intro f c1 g x hM hM1 enp w1 hf ht fd r1 hx
      obtain ⟨f', rfl⟩ : ∃ f', f = f' + 1 := ⟨f - 1, by have := hf.pos w1; omega⟩
      refine bX1_parseProof_50_1 ⟨fun y => by omega, fun _ => ⟨fun y => absurd r1.f0.1 y, fun _ => ⟨fun y => bX1_parseProof_82_1 ?_, fun y => ?_⟩⟩⟩
      · rw [r1.k] at y
        have nw : ¬ 7 ≤ wd s c1 := fun q => y (wd_k (s := s) (by omega))
        exact Hok (setnp c1) g (by rw [← ht]; exact tests_any nw) ⟨w1.fr, w1.to, w1.ad, w1.k4, w1.sm, by show c1.np + 1 ≤ 12; omega, w1.nq, w1.bz, w1.dg⟩ fd ⟨r1.s3, r1.ln, r1.k, r1.fr, r1.to, r1.f0, r1.dr, r1.np, r1.pl, r1.se, r1.td, r1.nq, r1.br⟩
      · refine kX1_parseTest_0 (d := d) hP r1 w1 (by omega) hn hx (fun w' p g2 v hb b => ⟨⟨by omega, by omega⟩, ?_⟩) (fun c2 g2 v hok f2 r2 hx2 => ⟨⟨by omega, by omega⟩, ?_⟩)
        · refine bX1_parseProof_50_1 ⟨fun _ => ?_, fun _ => ⟨fun _ => ?_, fun q => absurd (by rw [b.ew]; exact b.nz) q⟩⟩
          · refine bX1_parseProof_82_1 (Hbad w' p g2 ?_ (b.fr fd))
            rcases tests_bd (f := f') hb with e | ⟨e, e2, e3⟩
            · exact Or.inl (by rw [← ht]; exact e)
            · exact Or.inr ⟨setnp c1, by rw [← ht]; exact e, by show ¬ c1.t.k = 3; rw [r1.k] at y; omega, e2, e3⟩
          · refine bX1_parseProof_82_1 (Hbad w' p g2 ?_ (b.fr fd))
            rcases tests_bd (f := f') hb with e | ⟨e, e2, e3⟩
            · exact Or.inl (by rw [← ht]; exact e)
            · exact Or.inr ⟨setnp c1, by rw [← ht]; exact e, by show ¬ c1.t.k = 3; rw [r1.k] at y; omega, e2, e3⟩
        · obtain ⟨w2, n2, M2, F2⟩ := tst1_w (f := f') w1 hf hok
          rw [← n2] at M2 r2 hx2
          rw [n2] at M2
          have M3 : Mt5 c2.pr c2.np = Mt5 c1.pr c1.np + 1 := by rw [n2]; exact M2
          have := ih f' c2 g2 v (by omega) (by omega) (n2.trans enp) w2 F2 (by rw [← ht]; exact (tests_ok hok).symm) (fd.tr f2) r2 hx2
          rw [M3] at this
          rw [show ((Mt5 c1.pr c1.np - 1 : Nat) : Int) + 1 = ((Mt5 c1.pr c1.np + 1 - 1 : Nat) : Int) by omega]
          exact this
  -- the row is opened, the first test is read
  have main : ∀ x : Int, (0 ≤ x ∧ x ≤ 1) → (x = 1 ↔ wd s c = 1) → tX1_parseProof (h 0 0 + (0 : Nat)) L xs (am_C true L xs P (d + 5)) K 35 [(2, 4), (4, (wi : Int)), (9, 0), (9, 0)] [(0, x), (2, 5)] h := by
    intro x hx hxw
    refine bX1_parseProof_35_2 (kX0_openProof_0 (d := d + 4) hx r.np (by omega) (fun g1 f1 oD e5 e2 e4 e3 => ?_))
    have r1 := Cr_open_0 (w := wd s c) r hxw f1 oD e5 e2 e4 e3
    have fd1 : Fdr 5 h g1 := ⟨fun i h1 h2 => f1 i (fun q => h2 (by simp only [List.mem_cons, List.not_mem_nil, or_false] at q; omega)), fun j hj => by rw [f1 4 (by decide)]⟩
    refine kX1_adv (d := d + 2) (by decide) r1 w.pr hn (fun g2 f2 r2 => ?_)
    have ec : adv s n (setpr c (row0 c.pr c.np (wd s c))) = setpr (adv s n c) (row0 c.pr c.np (wd s c)) := rfl
    rw [ec] at r2
    generalize hc1 : setpr (adv s n c) (row0 c.pr c.np (wd s c)) = c1 at r2 hprf
    have n1 : c1.np = c.np := by rw [← hc1]; rfl
    have w1 : Cw s n c1 := by rw [← hc1]; exact wa.1.pr
    have p1 : ∀ t, t < 5 → c1.pr (6 * c1.np + 1 + t) = -1 := fun t ht => by
      rw [n1, ← hc1]
      show row0 c.pr c.np (wd s c) (6 * c.np + 1 + t) = -1
      unfold row0
      rw [if_neg (by omega), if_pos (by omega)]
    have M1 : Mt5 c1.pr c1.np = 0 := by
      unfold Mt5
      rw [p1 0 (by decide), p1 1 (by decide), p1 2 (by decide), p1 3 (by decide), p1 4 (by decide)]
      rfl
    rw [← n1] at r2
    have F1 : Fz n c1 (n + 1 + 1) := Fz_0 w1
    refine kX1_parseTest_0 (d := d) hP r2 w1 (by omega) hn (fun t ht => ⟨fun q => absurd q (by rw [bt_0]; decide), fun q => absurd (p1 t ht) q⟩) (fun w' p g3 v hb b => ?_) (fun c2 g3 v hok f3 r3 hx3 => ?_)
    · refine bX1_parseProof_50_1 ⟨fun q => absurd q (by decide), fun _ => ⟨fun _ => bX1_parseProof_82_1 (Hbad w' p g3 (Or.inl ?_) ((b.fr f2).fr fd1)), fun q => absurd (by rw [b.ew]; exact b.nz) q⟩⟩
      rw [hprf]; exact tests_bd0 hb
    · obtain ⟨w2, n2, M2, F2⟩ := tst1_w (f := n + 1) w1 F1 hok
      rw [← n2] at r3 hx3
      have M3 : Mt5 c2.pr c2.np = 1 := by rw [n2, M2, M1]
      have := loop 4 (n + 1) c2 g3 v (by omega) (by omega) (n2.trans n1) w2 F2 (by rw [hprf]; exact (tests_ok hok).symm) ((fd1.tr f2).tr f3) r3 hx3
      rw [M3] at this
      exact this
  refine bX1_parseProof_22_2 ?_
  rw [Int.toNat_natCast, e1]
  refine ⟨fun y => bX1_parseProof_34_2 (main 0 (by decide) ?_), fun y => main 1 (by decide) ?_⟩
  · rw [hwi]; exact ⟨fun q => absurd q (by decide), fun q => absurd q y⟩
  · rw [hwi]; exact ⟨fun _ => Classical.not_not.mp y, fun _ => rfl⟩
theorem kX1_parseProof_1 {wi : Nat} (hP : LWP P) (r : Cr s n 11 c.np c h) (w : Cw s n c) (hn : n ≤ 400) (hwi : wd s c = wi) (h1 : wi ≤ 1) (Hbad : ∀ w' p g, Rb (prf s n c) w' p → Cb n 11 h w' p g → K (9, 0) g) (Hok : ∀ c' g, prf s n c = .ok c' → Cw s n c' → Fdr 11 h g → Cr s n 11 c'.np c' g → K (9, 0) g) : am_C true L xs P (d + 6) 11 [(2, 4), (4, (wi : Int))] h K := by
  have np12 := w.np
  have wa := w.adv
  refine eX1_parseProof_1 (bX1_parseProof_0_1 ?_)
  rw [r.dr]
  refine bX1_parseProof_4_3 ?_
  rw [r.np]
  refine ⟨fun z => bX1_parseProof_18_1 ?_, fun z => kX1_ref (d := d + 4) r w (by decide) (fun g b => Hbad 2 _ g (Or.inl ?_) b)⟩
  rotate_left
  · unfold prf; rw [if_pos (by omega)]
  rw [r.dr]
  have hnp : c.np ≤ 11 := by omega
  have hprf : prf s n c = tests s n (n + 2) (setpr (adv s n c) (row0 c.pr c.np (wd s c))) false := by unfold prf; rw [if_neg (by omega)]
  obtain ⟨_, _, _, wa2, _⟩ := word_all ⟨wi, by omega⟩
  dsimp only at wa2
  have e1 := wa2 h1
  -- the loop
  have loop : ∀ (k f : Nat) (c1 : Cs) (g : am_H) (x : Int), Mt5 c1.pr c1.np + k = 5 → 1 ≤ Mt5 c1.pr c1.np → c1.np = c.np → Cw s n c1 → Fz n c1 f → tests s n f c1 true = prf s n c → Fdr 11 h g → Cr s n 11 (c1.np + 1) c1 g → (∀ t, t < 5 → (bt x t = true ↔ ¬ c1.pr (6 * c1.np + 1 + t) = -1)) → tX1_parseProof (h 0 0 + (0 : Nat)) L xs (am_C true L xs P (d + 5)) K 50 [(2, 4), (4, (wi : Int)), (0, x), (0, ((Mt5 c1.pr c1.np - 1 : Nat) : Int))] [] g := by
    intro k
    induction k with
    | zero =>
      intro f c1 g x hM hM1 enp w1 hf ht fd r1 hx
      obtain ⟨f', rfl⟩ : ∃ f', f = f' + 1 := ⟨f - 1, by have := hf.pos w1; omega⟩
      refine bX1_parseProof_50_1 ⟨fun y => by omega, fun _ => ⟨fun y => absurd r1.f0.1 y, fun _ => ⟨fun y => bX1_parseProof_82_1 ?_, fun y => ?_⟩⟩⟩
      · rw [r1.k] at y
        have nw : ¬ 7 ≤ wd s c1 := fun q => y (wd_k (s := s) (by omega))
        exact Hok (setnp c1) g (by rw [← ht]; exact tests_any nw) ⟨w1.fr, w1.to, w1.ad, w1.k4, w1.sm, by show c1.np + 1 ≤ 12; omega, w1.nq, w1.bz, w1.dg⟩ fd ⟨r1.s3, r1.ln, r1.k, r1.fr, r1.to, r1.f0, r1.dr, r1.np, r1.pl, r1.se, r1.td, r1.nq, r1.br⟩
      · refine kX1_parseTest_1 (d := d) hP r1 w1 (by omega) hn hx (fun w' p g2 v hb b => ⟨⟨by omega, by omega⟩, ?_⟩) (fun c2 g2 v hok f2 r2 hx2 => ?_)
        · refine bX1_parseProof_50_1 ⟨fun _ => ?_, fun _ => ⟨fun _ => ?_, fun q => absurd (by rw [b.ew]; exact b.nz) q⟩⟩
          · refine bX1_parseProof_82_1 (Hbad w' p g2 ?_ (b.fr fd))
            rcases tests_bd (f := f') hb with e | ⟨e, e2, e3⟩
            · exact Or.inl (by rw [← ht]; exact e)
            · exact Or.inr ⟨setnp c1, by rw [← ht]; exact e, by show ¬ c1.t.k = 3; rw [r1.k] at y; omega, e2, e3⟩
          · refine bX1_parseProof_82_1 (Hbad w' p g2 ?_ (b.fr fd))
            rcases tests_bd (f := f') hb with e | ⟨e, e2, e3⟩
            · exact Or.inl (by rw [← ht]; exact e)
            · exact Or.inr ⟨setnp c1, by rw [← ht]; exact e, by show ¬ c1.t.k = 3; rw [r1.k] at y; omega, e2, e3⟩
        · exfalso
          have q := tst1_w (f := f') w1 hf hok
          have := Mt5_le c2.pr c1.np
          omega
    | succ k ih =>
      intro f c1 g x hM hM1 enp w1 hf ht fd r1 hx
      obtain ⟨f', rfl⟩ : ∃ f', f = f' + 1 := ⟨f - 1, by have := hf.pos w1; omega⟩
      refine bX1_parseProof_50_1 ⟨fun y => by omega, fun _ => ⟨fun y => absurd r1.f0.1 y, fun _ => ⟨fun y => bX1_parseProof_82_1 ?_, fun y => ?_⟩⟩⟩
      · rw [r1.k] at y
        have nw : ¬ 7 ≤ wd s c1 := fun q => y (wd_k (s := s) (by omega))
        exact Hok (setnp c1) g (by rw [← ht]; exact tests_any nw) ⟨w1.fr, w1.to, w1.ad, w1.k4, w1.sm, by show c1.np + 1 ≤ 12; omega, w1.nq, w1.bz, w1.dg⟩ fd ⟨r1.s3, r1.ln, r1.k, r1.fr, r1.to, r1.f0, r1.dr, r1.np, r1.pl, r1.se, r1.td, r1.nq, r1.br⟩
      · refine kX1_parseTest_1 (d := d) hP r1 w1 (by omega) hn hx (fun w' p g2 v hb b => ⟨⟨by omega, by omega⟩, ?_⟩) (fun c2 g2 v hok f2 r2 hx2 => ⟨⟨by omega, by omega⟩, ?_⟩)
        · refine bX1_parseProof_50_1 ⟨fun _ => ?_, fun _ => ⟨fun _ => ?_, fun q => absurd (by rw [b.ew]; exact b.nz) q⟩⟩
          · refine bX1_parseProof_82_1 (Hbad w' p g2 ?_ (b.fr fd))
            rcases tests_bd (f := f') hb with e | ⟨e, e2, e3⟩
            · exact Or.inl (by rw [← ht]; exact e)
            · exact Or.inr ⟨setnp c1, by rw [← ht]; exact e, by show ¬ c1.t.k = 3; rw [r1.k] at y; omega, e2, e3⟩
          · refine bX1_parseProof_82_1 (Hbad w' p g2 ?_ (b.fr fd))
            rcases tests_bd (f := f') hb with e | ⟨e, e2, e3⟩
            · exact Or.inl (by rw [← ht]; exact e)
            · exact Or.inr ⟨setnp c1, by rw [← ht]; exact e, by show ¬ c1.t.k = 3; rw [r1.k] at y; omega, e2, e3⟩
        · obtain ⟨w2, n2, M2, F2⟩ := tst1_w (f := f') w1 hf hok
          rw [← n2] at M2 r2 hx2
          rw [n2] at M2
          have M3 : Mt5 c2.pr c2.np = Mt5 c1.pr c1.np + 1 := by rw [n2]; exact M2
          have := ih f' c2 g2 v (by omega) (by omega) (n2.trans enp) w2 F2 (by rw [← ht]; exact (tests_ok hok).symm) (fd.tr f2) r2 hx2
          rw [M3] at this
          rw [show ((Mt5 c1.pr c1.np - 1 : Nat) : Int) + 1 = ((Mt5 c1.pr c1.np + 1 - 1 : Nat) : Int) by omega]
          exact this
  -- the row is opened, the first test is read
  have main : ∀ x : Int, (0 ≤ x ∧ x ≤ 1) → (x = 1 ↔ wd s c = 1) → tX1_parseProof (h 0 0 + (0 : Nat)) L xs (am_C true L xs P (d + 5)) K 35 [(2, 4), (4, (wi : Int)), (9, 0), (9, 0)] [(0, x), (2, 11)] h := by
    intro x hx hxw
    refine bX1_parseProof_35_3 (kX0_openProof_1 (d := d + 4) hx r.np (by omega) (fun g1 f1 oD e5 e2 e4 e3 => ?_))
    have r1 := Cr_open_1 (w := wd s c) r hxw f1 oD e5 e2 e4 e3
    have fd1 : Fdr 11 h g1 := ⟨fun i h1 h2 => f1 i (fun q => h2 (by simp only [List.mem_cons, List.not_mem_nil, or_false] at q; omega)), fun j hj => by rw [f1 4 (by decide)]⟩
    refine kX1_adv (d := d + 2) (by decide) r1 w.pr hn (fun g2 f2 r2 => ?_)
    have ec : adv s n (setpr c (row0 c.pr c.np (wd s c))) = setpr (adv s n c) (row0 c.pr c.np (wd s c)) := rfl
    rw [ec] at r2
    generalize hc1 : setpr (adv s n c) (row0 c.pr c.np (wd s c)) = c1 at r2 hprf
    have n1 : c1.np = c.np := by rw [← hc1]; rfl
    have w1 : Cw s n c1 := by rw [← hc1]; exact wa.1.pr
    have p1 : ∀ t, t < 5 → c1.pr (6 * c1.np + 1 + t) = -1 := fun t ht => by
      rw [n1, ← hc1]
      show row0 c.pr c.np (wd s c) (6 * c.np + 1 + t) = -1
      unfold row0
      rw [if_neg (by omega), if_pos (by omega)]
    have M1 : Mt5 c1.pr c1.np = 0 := by
      unfold Mt5
      rw [p1 0 (by decide), p1 1 (by decide), p1 2 (by decide), p1 3 (by decide), p1 4 (by decide)]
      rfl
    rw [← n1] at r2
    have F1 : Fz n c1 (n + 1 + 1) := Fz_0 w1
    refine kX1_parseTest_1 (d := d) hP r2 w1 (by omega) hn (fun t ht => ⟨fun q => absurd q (by rw [bt_0]; decide), fun q => absurd (p1 t ht) q⟩) (fun w' p g3 v hb b => ?_) (fun c2 g3 v hok f3 r3 hx3 => ?_)
    · refine bX1_parseProof_50_1 ⟨fun q => absurd q (by decide), fun _ => ⟨fun _ => bX1_parseProof_82_1 (Hbad w' p g3 (Or.inl ?_) ((b.fr f2).fr fd1)), fun q => absurd (by rw [b.ew]; exact b.nz) q⟩⟩
      rw [hprf]; exact tests_bd0 hb
    · obtain ⟨w2, n2, M2, F2⟩ := tst1_w (f := n + 1) w1 F1 hok
      rw [← n2] at r3 hx3
      have M3 : Mt5 c2.pr c2.np = 1 := by rw [n2, M2, M1]
      have := loop 4 (n + 1) c2 g3 v (by omega) (by omega) (n2.trans n1) w2 F2 (by rw [hprf]; exact (tests_ok hok).symm) ((fd1.tr f2).tr f3) r3 hx3
      rw [M3] at this
      exact this
  refine bX1_parseProof_22_3 ?_
  rw [Int.toNat_natCast, e1]
  refine ⟨fun y => bX1_parseProof_34_3 (main 0 (by decide) ?_), fun y => main 1 (by decide) ?_⟩
  · rw [hwi]; exact ⟨fun q => absurd q (by decide), fun q => absurd q y⟩
  · rw [hwi]; exact ⟨fun _ => Classical.not_not.mp y, fun _ => rfl⟩
end
