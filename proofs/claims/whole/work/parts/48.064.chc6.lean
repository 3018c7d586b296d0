/-! chc6: the class reads a charter; written by q_chc6.py -/
def Sr (c : Cs) : Prop := ∀ k, k < 4 → lsv k ≤ c.se k ∧ c.se k ≤ hsv k
theorem tests_se {s : Nat → Int} {n : Nat} : ∀ (f : Nat) (c : Cs) (any : Bool) (c' : Cs), tests s n f c any = .ok c' → c'.se = c.se := by
  intro f
  induction f with
  | zero => intro c any c' h; simp only [tests] at h; injection h with h; rw [h]
  | succ f ih =>
    intro c any c' h
    simp only [tests] at h
    split at h
    · split at h
      · exact absurd h (by simp)
      · split at h
        · have := ih _ _ _ h; rw [this]; rfl
        · split at h
          · exact absurd h (by simp)
          · split at h
            · exact absurd h (by simp)
            · have := ih _ _ _ h; rw [this]; rfl
    · split at h
      · injection h with h; subst h; rfl
      · exact absurd h (by simp)
theorem brs_se {s : Nat → Int} {n : Nat} : ∀ (f : Nat) (c : Cs) (any : Bool) (c' : Cs), brs s n f c any = .ok c' → c'.se = c.se := by
  intro f
  induction f with
  | zero => intro c any c' h; simp only [brs] at h; injection h with h; rw [h]
  | succ f ih =>
    intro c any c' h
    simp only [brs] at h
    split at h
    · split at h
      · exact absurd h (by simp)
      · split at h
        · exact absurd h (by simp)
        · have := ih _ _ _ h; rw [this]; rfl
    · split at h
      · injection h with h; rw [h]
      · exact absurd h (by simp)
theorem stg_sr {s : Nat → Int} {n k : Nat} {c c' : Cs} (S : Sr c) (h : stg s n c k = .ok c') : Sr c' := by
  unfold stg at h
  split at h
  · exact absurd h (by simp)
  · split at h
    · exact absurd h (by simp)
    · split at h
      · exact absurd h (by simp)
      · rename_i b
        have b' := Classical.not_not.mp b
        injection h with h
        subst h
        intro j hj
        show lsv j ≤ up c.se k (nmv s (adv s n c)) j ∧ up c.se k (nmv s (adv s n c)) j ≤ hsv j
        unfold up
        by_cases e : j = k
        · rw [if_pos e, e]; exact b'
        · rw [if_neg e]; exact S j hj
theorem lin_sr {s : Nat → Int} {n : Nat} {c c' : Cs} (S : Sr c) (h : lin s n c = .ok c') : Sr c' := by
  unfold lin at h
  split at h
  · exact absurd h (by simp)
  · split at h
    · unfold prf at h
      split at h
      · exact absurd h (by simp)
      · have := tests_se _ _ _ _ h
        have e : c'.se = c.se := this
        unfold Sr; rw [e]; exact S
    · split at h
      · have := brs_se _ _ _ _ h
        have e : c'.se = c.se := this
        unfold Sr; rw [e]; exact S
      · exact stg_sr S h
theorem lns_sr {s : Nat → Int} {n : Nat} : ∀ (f : Nat) (c : Cs) (a : Nat) (c' : Cs) (a' : Nat), Sr c → lns s n f c a = (.ok c', a') → Sr c' := by
  intro f
  induction f with
  | zero => intro c a c' a' w h; simp only [lns] at h; injection h with h1 h2; injection h1 with h1; subst h1; exact w
  | succ f ih =>
    intro c a c' a' w h
    simp only [lns] at h
    by_cases h0 : c.t.k = 0
    · rw [if_pos h0] at h; injection h with h1 h2; injection h1 with h1; subst h1; exact w
    · rw [if_neg h0] at h
      cases hl : lin s n c with
      | inr x => rw [hl] at h; injection h with h1 h2; exact absurd h1 (by simp)
      | inl c1 =>
        rw [hl] at h
        dsimp only at h
        by_cases h3 : ¬ c1.t.k = 3
        · rw [if_pos h3] at h; injection h with h1 h2; exact absurd h1 (by simp)
        · rw [if_neg h3] at h
          exact ih _ _ _ _ (by have := lin_sr w hl; exact this) h
theorem cs0_sr {s : Nat → Int} {n : Nat} : Sr (cs0 s n) := by
  intro k hk
  show lsv k ≤ (if k = 0 then 66 else if k = 1 then 4 else if k = 2 then 18 else 10) ∧ (if k = 0 then 66 else if k = 1 then 4 else if k = 2 then 18 else 10) ≤ hsv k
  have : k = 0 ∨ k = 1 ∨ k = 2 ∨ k = 3 := by omega
  rcases this with e | e | e | e <;> subst e <;> decide
section
variable {L : Nat} {xs : Nat → Int} {P : Nat → List am_V → am_H → am_K → Prop} {d : Nat} {h : am_H} {K : am_K} {n : Nat}
theorem kX1_putInForce_0 (h1 : h 4 1 = 11) (h2 : h 4 2 = 5) (H : K (9, 0) (am_st (am_st h 4 1 5) 4 2 11)) : am_C true L xs P (d + 1) 10 [(2, 4)] h K := by
  refine eX1_putInForce (bX1_putInForce_0 ?_)
  rw [h1]
  refine bX1_putInForce_4_1 ?_
  rw [h2]
  exact bX1_putInForce_10_2 H
theorem kX1_parse_0 (hP : LWP P) (h1 : h 4 1 = 11) (h2 : h 4 2 = 5) (hn : n ≤ 400) (Hok : ∀ c a g, lns (sgn h) n (n + 2) (cs0 (sgn h) n) 0 = (.ok c, a) → Cw (sgn h) n c → Fdr 5 h g → Cr (sgn h) n 5 c.np c g → K (0, (a : Int)) (am_st (am_st g 4 1 5) 4 2 11)) (Hbad : ∀ w p a g, lns (sgn h) n (n + 2) (cs0 (sgn h) n) 0 = (.bad w p, a) → Cb n 5 h w p g → K (0, -1) g) : am_C true L xs P (d + 7) 9 [(2, 4), (0, (n : Int))] h K := by
  refine eX1_parse (bX1_parse_0 ?_)
  rw [h2]
  generalize hs : sgn h = s at Hok Hbad
  generalize hg0 : am_st (am_st (am_st (am_st (am_st h 4 3 (n : Int)) 4 6 0) 4 7 0) 4 8 0) 4 9 (-1) = g0
  have f0 : Fdr 5 h g0 := by rw [← hg0]; exact ((((Fdr.rf.st4 (by decide)).st4 (by decide)).st4 (by decide)).st4 (by decide)).st4 (by decide)
  have a3 : g0 4 3 = n := by rw [← hg0]; simp [am_st]
  have a6 : g0 4 6 = 0 := by rw [← hg0]; simp [am_st]
  have a7 : g0 4 7 = 0 := by rw [← hg0]; simp [am_st]
  have a8 : g0 4 8 = 0 := by rw [← hg0]; simp [am_st]
  have a9 : g0 4 9 = -1 := by rw [← hg0]; simp [am_st]
  have a2 : g0 4 2 = 5 := by rw [f0.2 2 (by decide)]; exact h2
  refine bX1_parse_29_0 (eX0_clear_0 (bX0_clear_0_0 ⟨by decide, by decide, by decide, by decide, ?_⟩))
  rw [show Int.toNat 0 = 0 from rfl, show Int.toNat 1 = 1 from rfl, show Int.toNat 2 = 2 from rfl, show Int.toNat 3 = 3 from rfl]
  generalize hg1 : am_st (am_st (am_st (am_st (am_st (am_st g0 6 0 66) 6 1 4) 6 2 18) 6 3 10) 5 5 0) 5 6 0 = g1
  have f1 : Fdr 5 g0 g1 := by rw [← hg1]; exact (((((Fdr.rf.stD (by decide) (by decide)).stD (by decide) (by decide)).stD (by decide) (by decide)).stD (by decide) (by decide)).stD (by decide) (by decide)).stD (by decide) (by decide)
  have b5 : g1 5 5 = 0 := by rw [← hg1]; simp [am_st]
  have b6 : g1 5 6 = 0 := by rw [← hg1]; simp [am_st]
  have bs : ∀ k, k < 4 → g1 6 k = (if k = 0 then 66 else if k = 1 then 4 else if k = 2 then 18 else 10) := by
    intro k hk
    have : k = 0 ∨ k = 1 ∨ k = 2 ∨ k = 3 := by omega
    rcases this with e | e | e | e <;> subst e <;> rw [← hg1] <;> simp [am_st]
  have o4 : g1 4 = g0 4 := by rw [← hg1, st_ne (by decide), st_ne (by decide), st_ne (by decide), st_ne (by decide), st_ne (by decide), st_ne (by decide)]
  have es : sgn g1 = s := by
    rw [← hs]; funext j; unfold sgn; rw [f1.1 3 (by decide) (by decide), f0.1 3 (by decide) (by decide)]
  refine kX1_advance (d := d + 3) (p := 0) (n := n) (by omega) hn (by rw [o4]; exact a3) (by rw [o4]; exact a6) (fun g2 f2 t1 t2 t3 => ?_)
  rw [es] at t1 t2 t3
  have fd2 : Fdr 5 h g2 := (f0.tr f1).tr f2.fd
  have o (i : Nat) (hi : ¬ i = 4) : g2 i = g1 i := f2.1 i hi
  have q (j : Nat) (hj : ¬ (4 ≤ j ∧ j ≤ 6)) : g2 4 j = g0 4 j := by rw [f2.2 j hj, o4]
  have r2 : Cr s n 5 0 (cs0 s n) g2 := by
    refine ⟨by rw [f2.sgn]; exact es, by rw [q 3 (by decide)]; exact a3, t1, t2, t3, by rw [q 8 (by decide), q 9 (by decide)]; exact ⟨a8, a9⟩, by rw [q 2 (by decide)]; exact a2, by rw [o _ (by decide)]; exact b5, fun l hl => by omega, by rw [o _ (by decide)]; exact bs, fun k hk => ?_, by rw [o _ (by decide)]; exact b6, fun k hk => by have : k < 0 := hk; omega⟩
    rw [q 7 (by decide), a7, bt_0]
    exact ⟨fun y => absurd y (by decide), fun y => False.elim y⟩
  -- a fault is the end
  have fin : ∀ (w : Int) (p a a' : Nat) (v3 : am_V) (g : am_H), lns s n (n + 2) (cs0 s n) 0 = (.bad w p, a) → Cb n 5 h w p g → tX1_parse (h 0 0 + (0 : Nat)) L xs (am_C true L xs P (d + 6)) K 38 [(2, 4), (0, (n : Int)), (0, (a' : Int)), v3] [] g := by
    intro w p a a' v3 g hl b
    have nz : ¬ g 4 8 = 0 := by rw [b.ew]; exact b.nz
    have e142 : tX1_parse (h 0 0 + (0 : Nat)) L xs (am_C true L xs P (d + 6)) K 142 [(2, 4), (0, (n : Int)), (0, (a' : Int)), v3] [] g := bX1_parse_142 ⟨fun _ => bX1_parse_153 ⟨fun _ => bX1_parse_164 (bX1_parse_165 (Hbad w p a g hl b)), fun y => absurd nz y⟩, fun y => absurd nz y⟩
    exact bX1_parse_38 ⟨fun _ => e142, fun _ => ⟨fun _ => e142, fun y => absurd nz y⟩⟩
  have key : ∀ (f : Nat) (c : Cs) (a : Nat) (v3 : am_V) (g : am_H), Cw s n c → n + 2 ≤ c.t.to + f ∨ (c.t.k = 0 ∧ 1 ≤ f) → a ≤ c.t.to → Fdr 5 h g → Cr s n 5 c.np c g → lns s n (n + 2) (cs0 s n) 0 = lns s n f c a → tX1_parse (h 0 0 + (0 : Nat)) L xs (am_C true L xs P (d + 6)) K 38 [(2, 4), (0, (n : Int)), (0, (a : Int)), v3] [] g := by
    intro f
    induction f with
    | zero => intro c a v3 g w hf; have := w.to; omega
    | succ f ih =>
      intro c a v3 g w hf ha fd r el
      have to := w.to
      refine bX1_parse_38 ⟨fun y => by omega, fun _ => ⟨fun y => absurd r.f0.1 y, fun _ => ⟨fun y => ?_, fun y => ?_⟩⟩⟩
      · rw [r.k] at y
        have hl : lns s n (n + 2) (cs0 s n) 0 = (.ok c, a) := by rw [el]; simp only [lns]; rw [if_pos y]
        refine bX1_parse_142 ⟨fun z => absurd r.f0.1 z, fun _ => kX1_putInForce_0 (d := d + 5) (by rw [fd.2 1 (by decide)]; exact h1) r.dr ?_⟩
        have z8 : am_st (am_st g 4 1 5) 4 2 11 4 8 = 0 := by rw [st_nj (by decide), st_nj (by decide)]; exact r.f0.1
        exact bX1_parse_153 ⟨fun z => absurd z8 z, fun _ => bX1_parse_165 (Hok c a g hl w fd r)⟩
      · rw [r.k] at y
        have lbad : ∀ (w' : Int) (p : Nat), lin s n c = .bad w' p → lns s n (n + 2) (cs0 s n) 0 = (.bad w' p, a) := by
          intro w' p hl
          rw [el]; simp only [lns]; rw [if_neg y, hl]
        have lbad3 : ∀ (c1 : Cs), lin s n c = .ok c1 → ¬ c1.t.k = 3 → lns s n (n + 2) (cs0 s n) 0 = (.bad 1 c1.t.fr, a) := by
          intro c1 hl hk
          rw [el]; simp only [lns]; rw [if_neg y, hl]; dsimp only; rw [if_pos hk]
        have ea : ((a : Int) + 1) = ((a + 1 : Nat) : Int) := by omega
        have e119_0 : ∀ (w' : Int) (p : Nat) (g' : am_H), lns s n (n + 2) (cs0 s n) 0 = (.bad w' p, a) → Cb n 5 h w' p g' → tX1_parse (h 0 0 + (0 : Nat)) L xs (am_C true L xs P (d + 6)) K 119 [(2, 4), (0, (n : Int)), (0, (a : Int)), (2, 0)] [] g' := by
          intro w' p g' hl b
          have e132 : tX1_parse (h 0 0 + (0 : Nat)) L xs (am_C true L xs P (d + 6)) K 132 [(2, 4), (0, (n : Int)), (0, (a : Int)), (2, 0)] [] g' := bX1_parse_132_0 (kX1_advb (d := d + 3) b hn (fun g2 b2 => ⟨⟨by omega, by omega⟩, by rw [ea]; exact fin w' p a (a + 1) _ g2 hl b2⟩))
          exact bX1_parse_119_0 ⟨fun _ => e132, fun _ => kX1_refb (d := d + 5) b e132⟩
        have e119_1 : ∀ (wi w' : Int) (p : Nat) (g' : am_H), lns s n (n + 2) (cs0 s n) 0 = (.bad w' p, a) → Cb n 5 h w' p g' → tX1_parse (h 0 0 + (0 : Nat)) L xs (am_C true L xs P (d + 6)) K 119 [(2, 4), (0, (n : Int)), (0, (a : Int)), (4, wi)] [] g' := by
          intro wi w' p g' hl b
          have e132 : tX1_parse (h 0 0 + (0 : Nat)) L xs (am_C true L xs P (d + 6)) K 132 [(2, 4), (0, (n : Int)), (0, (a : Int)), (4, wi)] [] g' := bX1_parse_132_1 (kX1_advb (d := d + 3) b hn (fun g2 b2 => ⟨⟨by omega, by omega⟩, by rw [ea]; exact fin w' p a (a + 1) _ g2 hl b2⟩))
          exact bX1_parse_119_1 ⟨fun _ => e132, fun _ => kX1_refb (d := d + 5) b e132⟩
        have aft : ∀ (wi : Int) (c1 : Cs) (g' : am_H), lin s n c = .ok c1 → Fdr 5 h g' → Cr s n 5 c1.np c1 g' → tX1_parse (h 0 0 + (0 : Nat)) L xs (am_C true L xs P (d + 6)) K 119 [(2, 4), (0, (n : Int)), (0, (a : Int)), (4, wi)] [] g' := by
          intro wi c1 g' hl fd' r'
          have lw := lin_w w hl
          have wa := lw.1.adv
          refine bX1_parse_119_1 ?_
          rw [r'.k]
          refine ⟨fun k3 => bX1_parse_132_1 (kX1_adv (d := d + 3) (by decide) r' lw.1 hn (fun g3 f3 r3 => ⟨⟨by omega, by omega⟩, ?_⟩)), fun k3 => kX1_ref (d := d + 5) r' lw.1 (by decide) (fun g3 b => ?_)⟩
          · rw [ea]
            refine ih (adv s n c1) (a + 1) _ g3 wa.1 ?_ (by omega) (fd'.tr f3) r3 ?_
            · have h2 : n + 2 ≤ c.t.to + (f + 1) := hf.resolve_right (fun q => y q.1)
              exact Or.inl (by omega)
            · rw [el]; simp only [lns]; rw [if_neg y, hl]; dsimp only; rw [if_neg (fun q => q k3)]
          · have b2 : Cb n 5 h 1 c1.t.fr g3 := b.fr fd'
            exact bX1_parse_132_1 (kX1_advb (d := d + 3) b2 hn (fun g4 b4 => ⟨⟨by omega, by omega⟩, by rw [ea]; exact fin 1 c1.t.fr a (a + 1) _ g4 (lbad3 c1 hl k3) b4⟩))
        refine kX1_lw (d := d + 5) hP r w hn (fun h0 => ?_) (fun h0 => ?_)
        · refine bX1_parse_63_0 ⟨fun _ => bX1_parse_76_0 (kX1_ref (d := d + 5) r w (by decide) (fun g' b => e119_0 1 c.t.fr g' (lbad 1 c.t.fr ?_) (b.fr fd))), fun q => absurd rfl q⟩
          unfold lin; rw [if_pos (by omega)]
        · have wb := wd_bnd (s := s) (c := c)
          obtain ⟨wi, hwi⟩ : ∃ wi : Nat, wd s c = wi := ⟨(wd s c).toNat, by omega⟩
          obtain ⟨wa0, _, wa1, _, wa2, _⟩ := word_all ⟨wi, by omega⟩
          dsimp only at wa0 wa1 wa2
          rw [hwi]
          refine bX1_parse_63_1 ⟨fun q => by injection q with q1 q2; exact absurd q1 (by decide), fun _ => ?_⟩
          rw [Int.toNat_natCast]
          refine ⟨fun n3 => bX1_parse_84_1 ?_, fun n3 => bX1_parse_76_1 (kX1_ref (d := d + 5) r w (by decide) (fun g' b => e119_1 _ 1 c.t.fr g' (lbad 1 c.t.fr ?_) (b.fr fd)))⟩
          · have l6 : wi ≤ 6 := Classical.byContradiction (fun q => n3 (wa0.mpr (by omega)))
            have r06 : 0 ≤ wd s c ∧ wd s c ≤ 6 := by omega
            rw [Int.toNat_natCast]
            refine ⟨fun n0 => bX1_parse_99_1 ?_, fun n0 => ?_⟩
            · have l2 : 2 ≤ wi := Classical.byContradiction (fun q => n0 (wa1.mpr (by omega)))
              rw [Int.toNat_natCast]
              refine ⟨fun n1 => bX1_parse_115_1 ?_, fun n1 => ?_⟩
              · have e6 : wi = 6 := Classical.byContradiction (fun q => n1 (wa2.mpr (by omega)))
                have hl : lin s n c = brs s n (n + 2) (adv s n c) false := by unfold lin; rw [if_neg (fun p => p r06), if_neg (by omega), if_pos (by omega)]
                refine kX1_parseBars_0 (d := d + 1) r w hn (fun w' p g' hb b => e119_1 _ w' p g' (lbad w' p (by rw [hl]; exact hb)) (b.fr fd)) (fun c' g' hok f' r' => aft _ c' g' (by rw [hl]; exact hok) (fd.tr f') ?_)
                have enp : c'.np = (adv s n c).np := brs_np _ _ _ _ hok
                have enp : c'.np = c.np := enp
                rw [enp]; exact r'
              · have b25 := wa2.mp (Classical.not_not.mp n1)
                have hl : lin s n c = stg s n c (wi - 2) := by unfold lin; rw [if_neg (fun p => p r06), if_neg (by omega), if_neg (by omega), show (wd s c - 2).toNat = wi - 2 by omega]
                exact kX1_parseSetting_0 (d := d + 1) r w hn b25 (fun w' p g' hb b => e119_1 _ w' p g' (lbad w' p (by rw [hl]; exact hb)) (b.fr fd)) (fun c' g' hok f' r' => aft _ c' g' (by rw [hl]; exact hok) (fd.tr f') r')
            · have l1 := wa1.mp (Classical.not_not.mp n0)
              have hl : lin s n c = prf s n c := by unfold lin; rw [if_neg (fun p => p r06), if_pos (by omega)]
              refine kX1_parseProof_0 (d := d) hP r w hn hwi l1 (fun w' p g' hb b => e119_1 _ w' p g' ?_ (b.fr fd)) (fun c' g' hok _ f' r' => aft _ c' g' (by rw [hl]; exact hok) (fd.tr f') r')
              rcases hb with hb | ⟨c1, hb, hk, e1, e2⟩
              · exact lbad w' p (by rw [hl]; exact hb)
              · rw [e1, e2]; exact lbad3 c1 (by rw [hl]; exact hb) hk
          · have g7 := wa0.mp (Classical.not_not.mp n3)
            unfold lin; rw [if_pos (by omega)]
  exact key (n + 2) (cs0 s n) 0 _ g2 cs0_w (Or.inl (by omega)) (by omega) fd2 r2 rfl
theorem kX1_putInForce_1 (h1 : h 4 1 = 5) (h2 : h 4 2 = 11) (H : K (9, 0) (am_st (am_st h 4 1 11) 4 2 5)) : am_C true L xs P (d + 1) 10 [(2, 4)] h K := by
  refine eX1_putInForce (bX1_putInForce_0 ?_)
  rw [h1]
  refine bX1_putInForce_4_0 ?_
  rw [h2]
  exact bX1_putInForce_10_1 H
theorem kX1_parse_1 (hP : LWP P) (h1 : h 4 1 = 5) (h2 : h 4 2 = 11) (hn : n ≤ 400) (Hok : ∀ c a g, lns (sgn h) n (n + 2) (cs0 (sgn h) n) 0 = (.ok c, a) → Cw (sgn h) n c → Fdr 11 h g → Cr (sgn h) n 11 c.np c g → K (0, (a : Int)) (am_st (am_st g 4 1 11) 4 2 5)) (Hbad : ∀ w p a g, lns (sgn h) n (n + 2) (cs0 (sgn h) n) 0 = (.bad w p, a) → Cb n 11 h w p g → K (0, -1) g) : am_C true L xs P (d + 7) 9 [(2, 4), (0, (n : Int))] h K := by
  refine eX1_parse (bX1_parse_0 ?_)
  rw [h2]
  generalize hs : sgn h = s at Hok Hbad
  generalize hg0 : am_st (am_st (am_st (am_st (am_st h 4 3 (n : Int)) 4 6 0) 4 7 0) 4 8 0) 4 9 (-1) = g0
  have f0 : Fdr 11 h g0 := by rw [← hg0]; exact ((((Fdr.rf.st4 (by decide)).st4 (by decide)).st4 (by decide)).st4 (by decide)).st4 (by decide)
  have a3 : g0 4 3 = n := by rw [← hg0]; simp [am_st]
  have a6 : g0 4 6 = 0 := by rw [← hg0]; simp [am_st]
  have a7 : g0 4 7 = 0 := by rw [← hg0]; simp [am_st]
  have a8 : g0 4 8 = 0 := by rw [← hg0]; simp [am_st]
  have a9 : g0 4 9 = -1 := by rw [← hg0]; simp [am_st]
  have a2 : g0 4 2 = 11 := by rw [f0.2 2 (by decide)]; exact h2
  refine bX1_parse_29_1 (eX0_clear_1 (bX0_clear_0_1 ⟨by decide, by decide, by decide, by decide, ?_⟩))
  rw [show Int.toNat 0 = 0 from rfl, show Int.toNat 1 = 1 from rfl, show Int.toNat 2 = 2 from rfl, show Int.toNat 3 = 3 from rfl]
  generalize hg1 : am_st (am_st (am_st (am_st (am_st (am_st g0 12 0 66) 12 1 4) 12 2 18) 12 3 10) 11 5 0) 11 6 0 = g1
  have f1 : Fdr 11 g0 g1 := by rw [← hg1]; exact (((((Fdr.rf.stD (by decide) (by decide)).stD (by decide) (by decide)).stD (by decide) (by decide)).stD (by decide) (by decide)).stD (by decide) (by decide)).stD (by decide) (by decide)
  have b5 : g1 11 5 = 0 := by rw [← hg1]; simp [am_st]
  have b6 : g1 11 6 = 0 := by rw [← hg1]; simp [am_st]
  have bs : ∀ k, k < 4 → g1 12 k = (if k = 0 then 66 else if k = 1 then 4 else if k = 2 then 18 else 10) := by
    intro k hk
    have : k = 0 ∨ k = 1 ∨ k = 2 ∨ k = 3 := by omega
    rcases this with e | e | e | e <;> subst e <;> rw [← hg1] <;> simp [am_st]
  have o4 : g1 4 = g0 4 := by rw [← hg1, st_ne (by decide), st_ne (by decide), st_ne (by decide), st_ne (by decide), st_ne (by decide), st_ne (by decide)]
  have es : sgn g1 = s := by
    rw [← hs]; funext j; unfold sgn; rw [f1.1 3 (by decide) (by decide), f0.1 3 (by decide) (by decide)]
  refine kX1_advance (d := d + 3) (p := 0) (n := n) (by omega) hn (by rw [o4]; exact a3) (by rw [o4]; exact a6) (fun g2 f2 t1 t2 t3 => ?_)
  rw [es] at t1 t2 t3
  have fd2 : Fdr 11 h g2 := (f0.tr f1).tr f2.fd
  have o (i : Nat) (hi : ¬ i = 4) : g2 i = g1 i := f2.1 i hi
  have q (j : Nat) (hj : ¬ (4 ≤ j ∧ j ≤ 6)) : g2 4 j = g0 4 j := by rw [f2.2 j hj, o4]
  have r2 : Cr s n 11 0 (cs0 s n) g2 := by
    refine ⟨by rw [f2.sgn]; exact es, by rw [q 3 (by decide)]; exact a3, t1, t2, t3, by rw [q 8 (by decide), q 9 (by decide)]; exact ⟨a8, a9⟩, by rw [q 2 (by decide)]; exact a2, by rw [o _ (by decide)]; exact b5, fun l hl => by omega, by rw [o _ (by decide)]; exact bs, fun k hk => ?_, by rw [o _ (by decide)]; exact b6, fun k hk => by have : k < 0 := hk; omega⟩
    rw [q 7 (by decide), a7, bt_0]
    exact ⟨fun y => absurd y (by decide), fun y => False.elim y⟩
  -- a fault is the end
  have fin : ∀ (w : Int) (p a a' : Nat) (v3 : am_V) (g : am_H), lns s n (n + 2) (cs0 s n) 0 = (.bad w p, a) → Cb n 11 h w p g → tX1_parse (h 0 0 + (0 : Nat)) L xs (am_C true L xs P (d + 6)) K 38 [(2, 4), (0, (n : Int)), (0, (a' : Int)), v3] [] g := by
    intro w p a a' v3 g hl b
    have nz : ¬ g 4 8 = 0 := by rw [b.ew]; exact b.nz
    have e142 : tX1_parse (h 0 0 + (0 : Nat)) L xs (am_C true L xs P (d + 6)) K 142 [(2, 4), (0, (n : Int)), (0, (a' : Int)), v3] [] g := bX1_parse_142 ⟨fun _ => bX1_parse_153 ⟨fun _ => bX1_parse_164 (bX1_parse_165 (Hbad w p a g hl b)), fun y => absurd nz y⟩, fun y => absurd nz y⟩
    exact bX1_parse_38 ⟨fun _ => e142, fun _ => ⟨fun _ => e142, fun y => absurd nz y⟩⟩
  have key : ∀ (f : Nat) (c : Cs) (a : Nat) (v3 : am_V) (g : am_H), Cw s n c → n + 2 ≤ c.t.to + f ∨ (c.t.k = 0 ∧ 1 ≤ f) → a ≤ c.t.to → Fdr 11 h g → Cr s n 11 c.np c g → lns s n (n + 2) (cs0 s n) 0 = lns s n f c a → tX1_parse (h 0 0 + (0 : Nat)) L xs (am_C true L xs P (d + 6)) K 38 [(2, 4), (0, (n : Int)), (0, (a : Int)), v3] [] g := by
    intro f
    induction f with
    | zero => intro c a v3 g w hf; have := w.to; omega
    | succ f ih =>
      intro c a v3 g w hf ha fd r el
      have to := w.to
      refine bX1_parse_38 ⟨fun y => by omega, fun _ => ⟨fun y => absurd r.f0.1 y, fun _ => ⟨fun y => ?_, fun y => ?_⟩⟩⟩
      · rw [r.k] at y
        have hl : lns s n (n + 2) (cs0 s n) 0 = (.ok c, a) := by rw [el]; simp only [lns]; rw [if_pos y]
        refine bX1_parse_142 ⟨fun z => absurd r.f0.1 z, fun _ => kX1_putInForce_1 (d := d + 5) (by rw [fd.2 1 (by decide)]; exact h1) r.dr ?_⟩
        have z8 : am_st (am_st g 4 1 11) 4 2 5 4 8 = 0 := by rw [st_nj (by decide), st_nj (by decide)]; exact r.f0.1
        exact bX1_parse_153 ⟨fun z => absurd z8 z, fun _ => bX1_parse_165 (Hok c a g hl w fd r)⟩
      · rw [r.k] at y
        have lbad : ∀ (w' : Int) (p : Nat), lin s n c = .bad w' p → lns s n (n + 2) (cs0 s n) 0 = (.bad w' p, a) := by
          intro w' p hl
          rw [el]; simp only [lns]; rw [if_neg y, hl]
        have lbad3 : ∀ (c1 : Cs), lin s n c = .ok c1 → ¬ c1.t.k = 3 → lns s n (n + 2) (cs0 s n) 0 = (.bad 1 c1.t.fr, a) := by
          intro c1 hl hk
          rw [el]; simp only [lns]; rw [if_neg y, hl]; dsimp only; rw [if_pos hk]
        have ea : ((a : Int) + 1) = ((a + 1 : Nat) : Int) := by omega
        have e119_0 : ∀ (w' : Int) (p : Nat) (g' : am_H), lns s n (n + 2) (cs0 s n) 0 = (.bad w' p, a) → Cb n 11 h w' p g' → tX1_parse (h 0 0 + (0 : Nat)) L xs (am_C true L xs P (d + 6)) K 119 [(2, 4), (0, (n : Int)), (0, (a : Int)), (2, 0)] [] g' := by
          intro w' p g' hl b
          have e132 : tX1_parse (h 0 0 + (0 : Nat)) L xs (am_C true L xs P (d + 6)) K 132 [(2, 4), (0, (n : Int)), (0, (a : Int)), (2, 0)] [] g' := bX1_parse_132_0 (kX1_advb (d := d + 3) b hn (fun g2 b2 => ⟨⟨by omega, by omega⟩, by rw [ea]; exact fin w' p a (a + 1) _ g2 hl b2⟩))
          exact bX1_parse_119_0 ⟨fun _ => e132, fun _ => kX1_refb (d := d + 5) b e132⟩
        have e119_1 : ∀ (wi w' : Int) (p : Nat) (g' : am_H), lns s n (n + 2) (cs0 s n) 0 = (.bad w' p, a) → Cb n 11 h w' p g' → tX1_parse (h 0 0 + (0 : Nat)) L xs (am_C true L xs P (d + 6)) K 119 [(2, 4), (0, (n : Int)), (0, (a : Int)), (4, wi)] [] g' := by
          intro wi w' p g' hl b
          have e132 : tX1_parse (h 0 0 + (0 : Nat)) L xs (am_C true L xs P (d + 6)) K 132 [(2, 4), (0, (n : Int)), (0, (a : Int)), (4, wi)] [] g' := bX1_parse_132_1 (kX1_advb (d := d + 3) b hn (fun g2 b2 => ⟨⟨by omega, by omega⟩, by rw [ea]; exact fin w' p a (a + 1) _ g2 hl b2⟩))
          exact bX1_parse_119_1 ⟨fun _ => e132, fun _ => kX1_refb (d := d + 5) b e132⟩
        have aft : ∀ (wi : Int) (c1 : Cs) (g' : am_H), lin s n c = .ok c1 → Fdr 11 h g' → Cr s n 11 c1.np c1 g' → tX1_parse (h 0 0 + (0 : Nat)) L xs (am_C true L xs P (d + 6)) K 119 [(2, 4), (0, (n : Int)), (0, (a : Int)), (4, wi)] [] g' := by
          intro wi c1 g' hl fd' r'
          have lw := lin_w w hl
          have wa := lw.1.adv
          refine bX1_parse_119_1 ?_
          rw [r'.k]
          refine ⟨fun k3 => bX1_parse_132_1 (kX1_adv (d := d + 3) (by decide) r' lw.1 hn (fun g3 f3 r3 => ⟨⟨by omega, by omega⟩, ?_⟩)), fun k3 => kX1_ref (d := d + 5) r' lw.1 (by decide) (fun g3 b => ?_)⟩
          · rw [ea]
            refine ih (adv s n c1) (a + 1) _ g3 wa.1 ?_ (by omega) (fd'.tr f3) r3 ?_
            · have h2 : n + 2 ≤ c.t.to + (f + 1) := hf.resolve_right (fun q => y q.1)
              exact Or.inl (by omega)
            · rw [el]; simp only [lns]; rw [if_neg y, hl]; dsimp only; rw [if_neg (fun q => q k3)]
          · have b2 : Cb n 11 h 1 c1.t.fr g3 := b.fr fd'
            exact bX1_parse_132_1 (kX1_advb (d := d + 3) b2 hn (fun g4 b4 => ⟨⟨by omega, by omega⟩, by rw [ea]; exact fin 1 c1.t.fr a (a + 1) _ g4 (lbad3 c1 hl k3) b4⟩))
        refine kX1_lw (d := d + 5) hP r w hn (fun h0 => ?_) (fun h0 => ?_)
        · refine bX1_parse_63_0 ⟨fun _ => bX1_parse_76_0 (kX1_ref (d := d + 5) r w (by decide) (fun g' b => e119_0 1 c.t.fr g' (lbad 1 c.t.fr ?_) (b.fr fd))), fun q => absurd rfl q⟩
          unfold lin; rw [if_pos (by omega)]
        · have wb := wd_bnd (s := s) (c := c)
          obtain ⟨wi, hwi⟩ : ∃ wi : Nat, wd s c = wi := ⟨(wd s c).toNat, by omega⟩
          obtain ⟨wa0, _, wa1, _, wa2, _⟩ := word_all ⟨wi, by omega⟩
          dsimp only at wa0 wa1 wa2
          rw [hwi]
          refine bX1_parse_63_1 ⟨fun q => by injection q with q1 q2; exact absurd q1 (by decide), fun _ => ?_⟩
          rw [Int.toNat_natCast]
          refine ⟨fun n3 => bX1_parse_84_1 ?_, fun n3 => bX1_parse_76_1 (kX1_ref (d := d + 5) r w (by decide) (fun g' b => e119_1 _ 1 c.t.fr g' (lbad 1 c.t.fr ?_) (b.fr fd)))⟩
          · have l6 : wi ≤ 6 := Classical.byContradiction (fun q => n3 (wa0.mpr (by omega)))
            have r06 : 0 ≤ wd s c ∧ wd s c ≤ 6 := by omega
            rw [Int.toNat_natCast]
            refine ⟨fun n0 => bX1_parse_99_1 ?_, fun n0 => ?_⟩
            · have l2 : 2 ≤ wi := Classical.byContradiction (fun q => n0 (wa1.mpr (by omega)))
              rw [Int.toNat_natCast]
              refine ⟨fun n1 => bX1_parse_115_1 ?_, fun n1 => ?_⟩
              · have e6 : wi = 6 := Classical.byContradiction (fun q => n1 (wa2.mpr (by omega)))
                have hl : lin s n c = brs s n (n + 2) (adv s n c) false := by unfold lin; rw [if_neg (fun p => p r06), if_neg (by omega), if_pos (by omega)]
                refine kX1_parseBars_1 (d := d + 1) r w hn (fun w' p g' hb b => e119_1 _ w' p g' (lbad w' p (by rw [hl]; exact hb)) (b.fr fd)) (fun c' g' hok f' r' => aft _ c' g' (by rw [hl]; exact hok) (fd.tr f') ?_)
                have enp : c'.np = (adv s n c).np := brs_np _ _ _ _ hok
                have enp : c'.np = c.np := enp
                rw [enp]; exact r'
              · have b25 := wa2.mp (Classical.not_not.mp n1)
                have hl : lin s n c = stg s n c (wi - 2) := by unfold lin; rw [if_neg (fun p => p r06), if_neg (by omega), if_neg (by omega), show (wd s c - 2).toNat = wi - 2 by omega]
                exact kX1_parseSetting_1 (d := d + 1) r w hn b25 (fun w' p g' hb b => e119_1 _ w' p g' (lbad w' p (by rw [hl]; exact hb)) (b.fr fd)) (fun c' g' hok f' r' => aft _ c' g' (by rw [hl]; exact hok) (fd.tr f') r')
            · have l1 := wa1.mp (Classical.not_not.mp n0)
              have hl : lin s n c = prf s n c := by unfold lin; rw [if_neg (fun p => p r06), if_pos (by omega)]
              refine kX1_parseProof_1 (d := d) hP r w hn hwi l1 (fun w' p g' hb b => e119_1 _ w' p g' ?_ (b.fr fd)) (fun c' g' hok _ f' r' => aft _ c' g' (by rw [hl]; exact hok) (fd.tr f') r')
              rcases hb with hb | ⟨c1, hb, hk, e1, e2⟩
              · exact lbad w' p (by rw [hl]; exact hb)
              · rw [e1, e2]; exact lbad3 c1 (by rw [hl]; exact hb) hk
          · have g7 := wa0.mp (Classical.not_not.mp n3)
            unfold lin; rw [if_pos (by omega)]
  exact key (n + 2) (cs0 s n) 0 _ g2 cs0_w (Or.inl (by omega)) (by omega) fd2 r2 rfl
theorem kX1_parse {D F : Nat} (hF : F = 5 ∨ F = 11) (hD : D = 16 - F) (hP : LWP P) (h1 : h 4 1 = F) (h2 : h 4 2 = D) (hn : n ≤ 400) (Hok : ∀ c a g, lns (sgn h) n (n + 2) (cs0 (sgn h) n) 0 = (.ok c, a) → Cw (sgn h) n c → Fdr D h g → Cr (sgn h) n D c.np c g → K (0, (a : Int)) (am_st (am_st g 4 1 D) 4 2 F)) (Hbad : ∀ w p a g, lns (sgn h) n (n + 2) (cs0 (sgn h) n) 0 = (.bad w p, a) → Cb n D h w p g → K (0, -1) g) : am_C true L xs P (d + 7) 9 [(2, 4), (0, (n : Int))] h K := by
  rcases hF with e | e <;> subst e <;> subst hD
  · exact kX1_parse_1 hP h1 h2 hn Hok Hbad
  · exact kX1_parse_0 hP h1 h2 hn Hok Hbad
end
