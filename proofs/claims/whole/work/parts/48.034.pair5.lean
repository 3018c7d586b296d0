/-! pair5: land, fields, weeks, count -/
section
variable {L : Nat} {xs : Nat → Int} {P : Nat → List am_V → am_H → am_K → Prop} {d : Nat} {h : am_H} {Q : am_V → am_V → am_H → Prop}
theorem cell_add {w y x : Nat} (hx : x < w) : ((y * w + x : Nat) : Int) % (w : Int) = x ∧ ((y * w + x : Nat) : Int) / (w : Int) = y := by
  have h1 : (y * w + x) % w = x := by rw [Nat.mul_comm, Nat.mul_add_mod]; exact Nat.mod_eq_of_lt hx
  have h2 : (y * w + x) / w = y := by rw [Nat.mul_comm, Nat.mul_add_div (by omega), Nat.div_eq_of_lt hx]; rfl
  constructor
  · rw [← Int.natCast_emod, h1]
  · rw [← Int.natCast_ediv, h2]
theorem kX6_clear {K : am_K} {w t : Nat} (hw : 2 ≤ w ∧ w ≤ 5) (ht : 2 ≤ t ∧ t ≤ 5) (H : ∀ g, Fr [20, 21, 22] h g → g 20 13 = (t * w : Nat) → g 20 14 = 0 → g 20 15 = 0 → (∀ c : Nat, c < t * w → g 21 c = (c : Int) % (w : Int) ∧ g 22 c = (c : Int) / (w : Int)) → (∀ c : Nat, t * w ≤ c → g 21 c = h 21 c ∧ g 22 c = h 22 c) → K (9, 0) g) : am_C true L xs P (d + 1) 62 [(2, 20), (0, (w : Int)), (0, (t : Int))] h K := by
  refine eX6_clear (bX6_clear_0 ?_)
  refine upto (σ := am_V × am_H) (N := t) (I := fun y s => Fr [20, 21, 22] h s.2 ∧ s.2 20 13 = (y * w : Nat) ∧ s.2 20 14 = 0 ∧ s.2 20 15 = 0 ∧ (∀ c : Nat, c < y * w → s.2 21 c = (c : Int) % (w : Int) ∧ s.2 22 c = (c : Int) / (w : Int)) ∧ (∀ c : Nat, y * w ≤ c → s.2 21 c = h 21 c ∧ s.2 22 c = h 22 c)) (G := fun y s => tX6_clear (h 0 0 + (0 : Nat)) L xs (am_C true L xs P d) K 17 [(2, 20), (0, (w : Int)), (0, (t : Int)), (0, (y : Int)), s.1] [] s.2) ?_ ?_ t 0 ((9, 0), am_st (am_st (am_st h 20 13 0) 20 14 0) 20 15 0) (by omega) ?_
  · intro y ⟨v, g⟩ hy ⟨e1, e2, e3, e4, e5, e6⟩ ih
    dsimp only at e1 e2 e3 e4 e5 e6 ⊢
    have hyw : y * w + w ≤ 25 := by
      have : (y + 1) * w ≤ 5 * 5 := Nat.mul_le_mul (by omega) hw.2
      rw [Nat.add_mul, Nat.one_mul] at this
      omega
    have ey : (y + 1) * w = y * w + w := by rw [Nat.add_mul, Nat.one_mul]
    refine bX6_clear_17 ⟨fun z => by omega, fun _ => ?_⟩
    refine upto (σ := am_H) (N := w) (I := fun x g => Fr [20, 21, 22] h g ∧ g 20 13 = (y * w + x : Nat) ∧ g 20 14 = 0 ∧ g 20 15 = 0 ∧ (∀ c : Nat, c < y * w + x → g 21 c = (c : Int) % (w : Int) ∧ g 22 c = (c : Int) / (w : Int)) ∧ (∀ c : Nat, y * w + x ≤ c → g 21 c = h 21 c ∧ g 22 c = h 22 c)) (G := fun x g => tX6_clear (h 0 0 + (0 : Nat)) L xs (am_C true L xs P d) K 25 [(2, 20), (0, (w : Int)), (0, (t : Int)), (0, (y : Int)), (0, (x : Int))] [] g) ?_ ?_ w 0 g (by omega) ⟨e1, e2, e3, e4, e5, e6⟩
    · intro x g hx ⟨q1, q2, q3, q4, q5, q6⟩ ihx
      refine bX6_clear_25 ⟨fun z => by omega, fun _ => ⟨fun z => by omega, fun _ => ⟨by omega, by omega, by omega, by omega, ?_⟩⟩⟩
      rw [q2, Int.toNat_natCast]
      have ca := cell_add (y := y) hx
      generalize hC : y * w + x = C at q2 q5 q6 ca ⊢
      have v21 : ∀ c, am_st (am_st (am_st g 21 C (x : Int)) 22 C (y : Int)) 20 13 ((C : Int) + 1) 21 c = if c = C then (x : Int) else g 21 c := by
        intro c; rw [st_ne (by decide), st_ne (by decide), st_ap]
      have v22 : ∀ c, am_st (am_st (am_st g 21 C (x : Int)) 22 C (y : Int)) 20 13 ((C : Int) + 1) 22 c = if c = C then (y : Int) else g 22 c := by
        intro c; rw [st_ne (by decide), st_ap, st_ne (by decide)]
      refine ihx _ ⟨((q1.st (by decide)).st (by decide)).st (by decide), ?_, ?_, ?_, fun c hc => ?_, fun c hc => ?_⟩
      · rw [st_at]; omega
      · rw [st_nj (by decide), st_ne (by decide), st_ne (by decide)]; exact q3
      · rw [st_nj (by decide), st_ne (by decide), st_ne (by decide)]; exact q4
      · rw [v21, v22]
        by_cases e : c = C
        · subst e; rw [if_pos rfl, if_pos rfl]; exact ⟨ca.1.symm, ca.2.symm⟩
        · rw [if_neg e, if_neg e]; exact q5 c (by omega)
      · rw [v21, v22, if_neg (by omega), if_neg (by omega)]
        exact q6 c (by omega)
    · intro g ⟨q1, q2, q3, q4, q5, q6⟩
      refine bX6_clear_25 ⟨fun _ => bX6_clear_77 ⟨by omega, ih ((0, (w : Int)), g) ⟨q1, ?_, q3, q4, ?_, ?_⟩⟩, fun z => by omega⟩
      · dsimp only; rw [ey]; exact q2
      · dsimp only; rw [ey]; exact q5
      · dsimp only; rw [ey]; exact q6
  · intro ⟨v, g⟩ ⟨e1, e2, e3, e4, e5, e6⟩
    dsimp only at e1 e2 e3 e4 e5 e6 ⊢
    exact bX6_clear_17 ⟨fun _ => bX6_clear_83 (H g e1 e2 e3 e4 e5 e6), fun z => by omega⟩
  · dsimp only
    refine ⟨((Fr.rf.st (by decide)).st (by decide)).st (by decide), ?_, ?_, ?_, fun c hc => by omega, fun c hc => ?_⟩
    · rw [st_nj (by decide), st_nj (by decide), st_at]; simp
    · rw [st_nj (by decide), st_at]
    · rw [st_at]
    · rw [st_ne (by decide), st_ne (by decide), st_ne (by decide), st_ne (by decide), st_ne (by decide), st_ne (by decide)]; exact ⟨rfl, rfl⟩
def landC (g : am_H) : am_H := am_st (am_st (am_st (am_st g 34 4 0) 34 5 0) 1 9 0) 1 10 0
def landM (g : am_H) (w t : Int) : am_H := am_st (am_st (am_st (am_st (am_st (am_st (am_st (am_st (am_t0 g) 59 3 w) 59 4 t) 59 5 0) 59 6 0) 59 7 0) 59 9 0) 59 11 0) 59 12 0
theorem pr_land {w t : Int} (I : Inv h) (H : ∀ v g, Inv g → g 0 = h 0 → Q (0, v) (0, v) g) : am_C true L xs P (d + 24) 107 [(2, 1), (0, w), (0, t)] h (fun r1 h1 => am_C true L xs P (d + 24) 167 [(2, 59), (0, w), (0, t)] h1 (fun r2 h2 => Q r1 r2 h2)) := by
  have no : ¬ ((2 ≤ w ∧ w ≤ 5) ∧ (2 ≤ t ∧ t ≤ 5)) → am_C true L xs P (d + 24) 167 [(2, 59), (0, w), (0, t)] h (fun r2 h2 => Q (0, 0) r2 h2) := fun z => kX12_land (d := d + 22) (fun z2 => absurd z2 z) (fun _ => H _ _ (I.xs MS.t0.xs) (XS.h0 MS.t0.xs))
  refine eX11_land (bX11_land_0 (kX11_within (d := d + 22) (fun z1 => ?_) (fun z1 => ?_)))
  · exact ⟨fun _ => bX11_land_18 ⟨by decide, no (fun z => z1 z.1)⟩, fun z => absurd rfl z⟩
  · refine ⟨fun z => absurd z (by decide), fun _ => kX11_within (d := d + 22) (fun z2 => ?_) (fun z2 => ?_)⟩
    · exact ⟨fun z => absurd rfl z, fun _ => bX11_land_18 ⟨by decide, no (fun z => z2 z.2)⟩⟩
    · refine ⟨fun _ => bX11_land_20 ?_, fun z => absurd (by decide) z⟩
      have ew : w = ((w.toNat : Nat) : Int) := by omega
      have et : t = ((t.toNat : Nat) : Int) := by omega
      generalize w.toNat = w' at ew
      generalize t.toNat = t' at et
      subst ew et
      refine kX6_clear (d := d + 22) (by omega) (by omega) (fun g f e13 e14 e15 ec eo => kX5_clear (d := d + 22) ⟨by decide, ?_⟩)
      show am_C true L xs P (d + 24) 167 [(2, 59), (0, (w' : Int)), (0, (t' : Int))] (landC g) (fun r2 h2 => Q (0, 1) r2 h2)
      refine kX12_land (d := d + 22) (fun _ => ?_) (fun z => absurd ⟨z1, z2⟩ z)
      have ag : ∀ D, nfr D [20, 21, 22] = true → nd D 34 4 = true → nd D 34 5 = true → nd D 1 9 = true → nd D 1 10 = true → nd D 59 2 = true → nd D 59 3 = true → nd D 59 4 = true → nd D 59 5 = true → nd D 59 6 = true → nd D 59 7 = true → nd D 59 9 = true → nd D 59 11 = true → nd D 59 12 = true → agree D h (landM (landC g) w' t') := fun D q a1 a2 a3 a4 a5 a6 a7 a8 a9 a10 a11 a12 a13 =>
        ((((((((((((((agree.of f q).st a1).st a2).st a3).st a4).t0 a5).st a6).st a7).st a8).st a9).st a10).st a11).st a12).st a13)
      have lm : ∀ i, ¬ i = 59 → landM (landC g) w' t' i = landC g i := by
        intro i hi
        unfold landM am_t0
        iterate 9 rw [st_ne hi]
      have lc : ∀ i, ¬ i = 34 → ¬ i = 1 → landC g i = g i := by
        intro i h1 h2
        unfold landC
        rw [st_ne h2, st_ne h2, st_ne h1, st_ne h1]
      have f3 : landM (landC g) w' t' 59 3 = w' := by unfold landM; simp [am_st]
      have f4 : landM (landC g) w' t' 59 4 = t' := by unfold landM; simp [am_st]
      have f5 : landM (landC g) w' t' 59 5 = 0 := by unfold landM; simp [am_st]
      have f6 : landM (landC g) w' t' 59 6 = 0 := by unfold landM; simp [am_st]
      have f7 : landM (landC g) w' t' 59 7 = 0 := by unfold landM; simp [am_st]
      have f9 : landM (landC g) w' t' 59 9 = 0 := by unfold landM; simp [am_st]
      have f11 : landM (landC g) w' t' 59 11 = 0 := by unfold landM; simp [am_st]
      have f12 : landM (landC g) w' t' 59 12 = 0 := by unfold landM; simp [am_st]
      have g344 : landM (landC g) w' t' 34 4 = 0 := by rw [lm 34 (by decide)]; unfold landC; simp [am_st]
      have g345 : landM (landC g) w' t' 34 5 = 0 := by rw [lm 34 (by decide)]; unfold landC; simp [am_st]
      have g19 : landM (landC g) w' t' 1 9 = 0 := by rw [lm 1 (by decide)]; unfold landC; simp [am_st]
      have g110 : landM (landC g) w' t' 1 10 = 0 := by rw [lm 1 (by decide)]; unfold landC; simp [am_st]
      have k20 : landM (landC g) w' t' 20 = g 20 := by rw [lm 20 (by decide), lc 20 (by decide) (by decide)]
      have k21 : landM (landC g) w' t' 21 = g 21 := by rw [lm 21 (by decide), lc 21 (by decide) (by decide)]
      have k22 : landM (landC g) w' t' 22 = g 22 := by rw [lm 22 (by decide), lc 22 (by decide) (by decide)]
      have k24 : landM (landC g) w' t' 24 = h 24 := by rw [lm 24 (by decide), lc 24 (by decide) (by decide), f 24 (by decide)]
      have k61 : landM (landC g) w' t' 61 = h 61 := by rw [lm 61 (by decide), lc 61 (by decide) (by decide), f 61 (by decide)]
      have k62 : landM (landC g) w' t' 62 = h 62 := by rw [lm 62 (by decide), lc 62 (by decide) (by decide), f 62 (by decide)]
      obtain ⟨nm, r⟩ := I.r
      obtain ⟨c, np, nq, p, s⟩ := I.p
      have wt : t' * w' ≤ 25 := Nat.mul_le_mul (show t' ≤ 5 by omega) (show w' ≤ 5 by omega)
      have lr : LkR (landM (landC g) w' t') 0 := by
        refine ⟨by rw [f3]; exact z1, by rw [f4]; exact z2, by rw [k20, e13, f3, f4, Int.natCast_mul, Int.mul_comm], by rw [k20, e14, f7], by rw [f7]; decide, by rw [k20, e15]; rfl, by rw [f9]; rfl, by decide, fun c hc => ?_, fun j hj => ?_, fun j hj => ?_, fun i hi => ?_, fun m hm => by omega, by rw [k62]; exact r.mv, fun m t hm => by omega, fun m t hm => by omega⟩
        · rw [k20, e13] at hc
          rw [k21, k22, f3]
          exact ec c (by omega)
        · rw [k21, k22]
          by_cases hc : j < t' * w'
          · have := ec j hc
            rw [this.1, this.2]
            have m1 := Int.emod_nonneg (j : Int) (show (w' : Int) ≠ 0 by omega)
            have m2 := Int.emod_lt_of_pos (j : Int) (show (0 : Int) < w' by omega)
            have d1 : 0 ≤ (j : Int) / (w' : Int) := Int.ediv_nonneg (by omega) (by omega)
            have d2 : (j : Int) / (w' : Int) < t' := Int.ediv_lt_of_lt_mul (by omega) (by exact_mod_cast hc)
            omega
          · have := eo j (by omega)
            rw [this.1, this.2]
            exact r.c25 j hj
        · rw [k24, k61]; exact r.s25 j hj
        · rw [f7] at hi; omega
      have ln : LkN (landM (landC g) w' t') 0 0 := by
        refine ⟨by rw [g344]; rfl, by rw [f11]; rfl, by decide, by rw [g345]; rfl, by rw [f12]; rfl, fun k hk => by omega, fun k hk => by omega, fun k hk => by omega, fun k hk => by omega, fun k hk => by omega, fun b hb => by omega, ⟨by decide, fun k hk => by omega, fun k hk => by omega, fun k hk => by omega, fun k hk => by omega, fun k hk => by omega, fun k k' hk => by omega⟩, fun k hk => by omega, fun k hk => by omega⟩
      have i : Inv (landM (landC g) w' t') := ⟨⟨0, 0, ln⟩, ⟨0, lr⟩, ⟨c, np, nq, p.cg (ag _ rfl rfl rfl rfl rfl rfl rfl rfl rfl rfl rfl rfl rfl rfl), s.cg p.hc (ag _ rfl rfl rfl rfl rfl rfl rfl rfl rfl rfl rfl rfl rfl rfl)⟩, I.t.cg (ag _ rfl rfl rfl rfl rfl rfl rfl rfl rfl rfl rfl rfl rfl rfl), I.f.cg (ag _ rfl rfl rfl rfl rfl rfl rfl rfl rfl rfl rfl rfl rfl rfl), I.l.cg (ag _ rfl rfl rfl rfl rfl rfl rfl rfl rfl rfl rfl rfl rfl rfl), I.y.cg (ag _ rfl rfl rfl rfl rfl rfl rfl rfl rfl rfl rfl rfl rfl rfl), ⟨by rw [g19, f5], by rw [f5]; decide, by rw [g110, f6]⟩⟩
      exact H 1 _ i ((ag [(0, none)] rfl rfl rfl rfl rfl rfl rfl rfl rfl rfl rfl rfl rfl rfl).c 0 rfl)
theorem Inv.yard {h g : am_H} (I : Inv h) (y : LkY g) (aN : agree DN h g) (aR : agree DR h g) (aP : agree DP h g) (aT : agree DT h g) (aF : agree DF h g) (aL : agree DL h g) (aW : agree DW h g) : Inv g := by
  obtain ⟨⟨N, nb, n⟩, ⟨nm, r⟩, ⟨c, np, nq, p, s⟩, t, f, l, _, w⟩ := I
  exact ⟨⟨N, nb, n.cg aN⟩, ⟨nm, r.cg aR⟩, ⟨c, np, nq, p.cg aP, s.cg p.hc aP⟩, t.cg aT, f.cg aF, l.cg aL, y, w.cg aW⟩
theorem pr_capacity {n : Int} (I : Inv h) (H : ∀ v g, Inv g → g 0 = h 0 → Q (0, v) (0, v) g) : am_C true L xs P (d + 24) 127 [(2, 1), (0, n)] h (fun r1 h1 => am_C true L xs P (d + 24) 210 [(2, 59), (0, n)] h1 (fun r2 h2 => Q r1 r2 h2)) := by
  refine kX11_capacity (d := d + 22) (fun z => ?_) (fun z => ?_)
  · refine kX12_capacity (d := d + 22) (fun _ => ?_) (fun z2 => absurd z z2)
    have ag : ∀ D, nd D 55 4 = true → nd D 59 2 = true → nd D 59 22 = true → agree D h (am_st (am_t0 (am_st h 55 4 n)) 59 22 n) := fun D a1 a2 a3 => ((agree.rf.st a1).t0 a2).st a3
    obtain ⟨y, z', hn, hc, hs, hk⟩ := I.y
    have aY := ag [(55, some 3), (59, some 19), (56, none), (57, none), (69, none), (70, none)] rfl rfl rfl
    have f3 := aY.f 55 3 rfl
    have f19 := aY.f 59 19 rfl
    have e56 := aY.c 56 rfl
    have e57 := aY.c 57 rfl
    have e69 := aY.c 69 rfl
    have e70 := aY.c 70 rfl
    have c1 : am_st (am_t0 (am_st h 55 4 n)) 59 22 n 55 4 = n := by rw [st_ne (by decide)]; show am_st (am_st h 55 4 n) 59 2 0 55 4 = n; rw [st_ne (by decide), st_at]
    have c2 : am_st (am_t0 (am_st h 55 4 n)) 59 22 n 59 22 = n := st_at
    have ly : LkY (am_st (am_t0 (am_st h 55 4 n)) 59 22 n) := by
      refine ⟨?_, ?_, by rw [f3, f19]; exact hn, by rw [c1, c2], by rw [f19, e56, e69]; exact hs, by rw [e57, e70]; exact hk⟩
      · unfold am_okY at y ⊢; rw [f3, e56, e57, c1]; exact ⟨y.1, z, y.2.2⟩
      · unfold am_okZ at z' ⊢; rw [f19, e69, e70, c2]; exact ⟨z'.1, z, z'.2.2⟩
    exact H 1 _ (I.yard ly (ag _ rfl rfl rfl) (ag _ rfl rfl rfl) (ag _ rfl rfl rfl) (ag _ rfl rfl rfl) (ag _ rfl rfl rfl) (ag _ rfl rfl rfl) (ag _ rfl rfl rfl)) ((ag [(0, none)] rfl rfl rfl).c 0 rfl)
  · exact kX12_capacity (d := d + 22) (fun z2 => absurd z2 z) (fun _ => H _ _ (I.xs MS.t0.xs) (XS.h0 MS.t0.xs))
theorem pr_field {n : Int} (I : Inv h) (H : ∀ v g, Inv g → g 0 = h 0 → Q (0, v) (0, v) g) : am_C true L xs P (d + 24) 125 [(2, 1), (0, n)] h (fun r1 h1 => am_C true L xs P (d + 24) 208 [(2, 59), (0, n)] h1 (fun r2 h2 => Q r1 r2 h2)) := by
  obtain ⟨y, z', hn, hc, hs, hk⟩ := I.y
  have y1 := y.1
  refine kX11_field (d := d + 22) y.1 (fun z => ?_) (fun z => ?_)
  · obtain ⟨F, hF⟩ : ∃ F : Nat, h 55 3 = F := ⟨(h 55 3).toNat, by omega⟩
    have e : ∀ j, am_st (am_st h 56 (Int.toNat (h 55 3)) n) 55 3 (h 55 3 + 1) 59 j = h 59 j := fun j => by rw [st_ne (by decide), st_ne (by decide)]
    refine kX12_field (d := d + 22) (by rw [e, ← hn]; exact y.1) (fun _ => ?_) (fun z2 => absurd ?_ z2)
    · rw [e, ← hn, hF, Int.toNat_natCast]
      have ag : ∀ D, (∀ j, nd D 56 j = true ∧ nd D 69 j = true) → nd D 55 3 = true → nd D 59 2 = true → nd D 59 19 = true → agree D h (am_st (am_st (am_t0 (am_st (am_st h 56 F n) 55 3 ((F : Int) + 1))) 69 F n) 59 19 ((F : Int) + 1)) := fun D a1 a2 a3 a4 => ((((agree.rf.st (a1 _).1).st a2).t0 a3).st (a1 _).2).st a4
      generalize hG : am_st (am_st (am_t0 (am_st (am_st h 56 F n) 55 3 ((F : Int) + 1))) 69 F n) 59 19 ((F : Int) + 1) = G at ag
      have v56 : ∀ j, G 56 j = if j = F then n else h 56 j := by intro j; rw [← hG]; unfold am_t0; simp [am_st]
      have v69 : ∀ j, G 69 j = if j = F then n else h 69 j := by intro j; rw [← hG]; unfold am_t0; simp [am_st]
      have v3 : G 55 3 = (F : Int) + 1 := by rw [← hG]; unfold am_t0; simp [am_st]
      have v19 : G 59 19 = (F : Int) + 1 := by rw [← hG]; unfold am_t0; simp [am_st]
      have aY := ag [(55, some 4), (59, some 22), (57, none), (70, none)] (fun _ => ⟨rfl, rfl⟩) rfl rfl rfl
      have f4 := aY.f 55 4 rfl
      have f22 := aY.f 59 22 rfl
      have e57 := aY.c 57 rfl
      have e70 := aY.c 70 rfl
      have ly : LkY G := by
        refine ⟨⟨by rw [v3]; omega, by rw [f4]; exact y.2.1, fun j hj => ?_, by rw [e57]; exact y.2.2.2.1, fun j hj => ?_⟩, ⟨by rw [v19]; omega, by rw [f22]; exact z'.2.1, fun j hj => ?_, by rw [e70]; exact z'.2.2.2.1, fun j hj => ?_⟩, by rw [v3, v19], by rw [f4, f22]; exact hc, fun j hj => ?_, by rw [e57, e70]; exact hk⟩
        · rw [v56]
          split
          · omega
          · exact y.2.2.1 j hj
        · rw [v56]
          rw [v3] at hj
          split
          · omega
          · exact y.2.2.2.2 j (by omega)
        · rw [v69]
          split
          · omega
          · exact z'.2.2.1 j hj
        · rw [v69]
          rw [v19] at hj
          split
          · omega
          · exact z'.2.2.2.2 j (by omega)
        · rw [v56, v69]
          rw [v19] at hj
          split
          · rfl
          · exact hs j (by omega)
      exact H _ _ (I.yard ly (ag _ (fun _ => ⟨rfl, rfl⟩) rfl rfl rfl) (ag _ (fun _ => ⟨rfl, rfl⟩) rfl rfl rfl) (ag _ (fun _ => ⟨rfl, rfl⟩) rfl rfl rfl) (ag _ (fun _ => ⟨rfl, rfl⟩) rfl rfl rfl) (ag _ (fun _ => ⟨rfl, rfl⟩) rfl rfl rfl) (ag _ (fun _ => ⟨rfl, rfl⟩) rfl rfl rfl) (ag _ (fun _ => ⟨rfl, rfl⟩) rfl rfl rfl)) ((ag [(0, none)] (fun _ => ⟨rfl, rfl⟩) rfl rfl rfl).c 0 rfl)
    · rw [e, ← hn]; exact z
  · exact kX12_field (d := d + 22) (by rw [← hn]; exact y.1) (fun z2 => absurd (by rw [hn]; exact z2) z) (fun _ => H _ _ (I.xs MS.t0.xs) (XS.h0 MS.t0.xs))
theorem pr_kin {f s n : Int} (I : Inv h) (H : ∀ v g, Inv g → g 0 = h 0 → Q (0, v) (0, v) g) : am_C true L xs P (d + 24) 126 [(2, 1), (0, f), (0, s), (0, n)] h (fun r1 h1 => am_C true L xs P (d + 24) 209 [(2, 59), (0, f), (0, s), (0, n)] h1 (fun r2 h2 => Q r1 r2 h2)) := by
  obtain ⟨y, z', hn, hc, hs, hk⟩ := I.y
  have y1 := y.1
  refine kX11_kin (d := d + 22) y.1.2 (fun z => ?_) (fun z => ?_)
  · have e : ∀ j, am_st h 57 (Int.toNat (f * 21 + s)) n 59 j = h 59 j := fun j => by rw [st_ne (by decide)]
    refine kX12_kin (d := d + 22) (by rw [e, ← hn]; exact y.1.2) (fun _ => ?_) (fun z2 => absurd ?_ z2)
    · rw [show Int.toNat (21 * f + s) = Int.toNat (f * 21 + s) by rw [Int.mul_comm]]
      generalize Int.toNat (f * 21 + s) = F
      have ag : ∀ D, (∀ j, nd D 57 j = true ∧ nd D 70 j = true) → nd D 59 2 = true → agree D h (am_st (am_t0 (am_st h 57 F n)) 70 F n) := fun D a1 a2 => ((agree.rf.st (a1 _).1).t0 a2).st (a1 _).2
      generalize hG : am_st (am_t0 (am_st h 57 F n)) 70 F n = G at ag
      have v57 : ∀ j, G 57 j = if j = F then n else h 57 j := by intro j; rw [← hG]; unfold am_t0; simp [am_st]
      have v70 : ∀ j, G 70 j = if j = F then n else h 70 j := by intro j; rw [← hG]; unfold am_t0; simp [am_st]
      have aY := ag [(55, some 3), (55, some 4), (59, some 19), (59, some 22), (56, none), (69, none)] (fun _ => ⟨rfl, rfl⟩) rfl
      have f3 := aY.f 55 3 rfl
      have f4 := aY.f 55 4 rfl
      have f19 := aY.f 59 19 rfl
      have f22 := aY.f 59 22 rfl
      have e56 := aY.c 56 rfl
      have e69 := aY.c 69 rfl
      have ly : LkY G := by
        refine ⟨⟨by rw [f3]; exact y.1, by rw [f4]; exact y.2.1, by rw [e56]; exact y.2.2.1, fun j hj => ?_, by rw [f3, e56]; exact y.2.2.2.2⟩, ⟨by rw [f19]; exact z'.1, by rw [f22]; exact z'.2.1, by rw [e69]; exact z'.2.2.1, fun j hj => ?_, by rw [f19, e69]; exact z'.2.2.2.2⟩, by rw [f3, f19]; exact hn, by rw [f4, f22]; exact hc, by rw [f19, e56, e69]; exact hs, fun j hj => ?_⟩
        · rw [v57]
          split
          · omega
          · exact y.2.2.2.1 j hj
        · rw [v70]
          split
          · omega
          · exact z'.2.2.2.1 j hj
        · rw [v57, v70]
          split
          · rfl
          · exact hk j hj
      exact H _ _ (I.yard ly (ag _ (fun _ => ⟨rfl, rfl⟩) rfl) (ag _ (fun _ => ⟨rfl, rfl⟩) rfl) (ag _ (fun _ => ⟨rfl, rfl⟩) rfl) (ag _ (fun _ => ⟨rfl, rfl⟩) rfl) (ag _ (fun _ => ⟨rfl, rfl⟩) rfl) (ag _ (fun _ => ⟨rfl, rfl⟩) rfl) (ag _ (fun _ => ⟨rfl, rfl⟩) rfl)) ((ag [(0, none)] (fun _ => ⟨rfl, rfl⟩) rfl).c 0 rfl)
    · rw [e, ← hn]; exact z
  · exact kX12_kin (d := d + 22) (by rw [← hn]; exact y.1.2) (fun z2 => absurd (by rw [hn]; exact z2) z) (fun _ => H _ _ (I.xs MS.t0.xs) (XS.h0 MS.t0.xs))
end
