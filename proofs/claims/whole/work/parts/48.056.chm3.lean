/-! chm3: the model reads proofs and bars -/
section
variable {L : Nat} {xs : Nat → Int} {P : Nat → List am_V → am_H → am_K → Prop} {d : Nat} {h : am_H} {K : am_K} {s : Nat → Int} {n m : Nat} {c : Cs}
theorem Mr.setpr {g : am_H} {j : Nat} {v : Int} (r : Mr s n m c g) (hj : j < m) : Mr s n m (setpr c (up c.pr j v)) (am_st g 72 (72 + j) v) := by
  have o (i : Nat) (hi : ¬ i = 72) : am_st g 72 (72 + j) v i = g i := st_ne hi
  refine ⟨by rw [o 60 (by decide)]; exact r.s60, by rw [o 59 (by decide)]; exact r.st, by rw [o 71 (by decide)]; exact r.wt, r.tk.congr (fun j _ _ => by rw [o 59 (by decide)]), by rw [o 59 (by decide)]; exact r.np, fun i hi => ?_, by rw [o 73 (by decide)]; exact r.se, by rw [o 74 (by decide)]; exact r.td, by rw [o 59 (by decide)]; exact r.nq, by rw [o 75 (by decide)]; exact r.bz, by rw [o 76 (by decide)]; exact r.bl, by rw [o 59 (by decide)]; exact r.z1, by rw [o 59 (by decide)]; exact r.z24⟩
  show am_st g 72 (72 + j) v 72 (72 + i) = up c.pr j v i
  rw [st_ap]
  by_cases e : i = j
  · rw [if_pos (by omega), e, up_at]
  · rw [if_neg (by omega), up_ne e]; exact r.pr i hi
theorem wd_w {g : am_H} (r : Mr s n m c g) (hk : c.t.k = 1) : g 59 29 = wd s c := by
  rw [r.tk.w1 hk]; unfold wd; rw [if_pos hk]
theorem kX12_proofRead (r : Mr s n (6 * c.np) c h) (w : Cw s n c) (hn : n ≤ 400) (hw : 0 ≤ wd s c ∧ wd s c ≤ 1) (Hok : ∀ c' g, prf s n c = .ok c' → Fc h g → Mr s n (6 * c'.np) c' g → K (0, 1) g) (Hbad : ∀ w p g, prf s n c = .bad w p → Mb h w p g → K (0, 0) g) : am_C true L xs P (d + 3) 157 [(2, 59)] h K := by
  have hk := wd_k (s := s) (c := c) (by omega)
  have np12 := w.np
  have e29 := wd_w r hk
  refine eX12_proofRead (bX12_proofRead_0 ?_)
  rw [r.np]
  refine ⟨fun z => bX12_proofRead_15 ?_, fun z => kX12_wrong' (d := d + 1) r (fun g b => ⟨by decide, Hbad 2 c.t.fr g (by unfold prf; rw [if_pos (by omega)]) b⟩)⟩
  have n12 : ¬ c.np = 12 := fun e => z (by rw [e]; rfl)
  have hp : prf s n c = tests s n (n + 2) (setpr (adv s n c) (row0 c.pr c.np (wd s c))) false := by unfold prf; rw [if_neg n12]
  rw [hp] at Hok Hbad
  rw [r.np, e29, show Int.toNat (72 + 6 * (c.np : Int)) = 72 + 6 * c.np by omega]
  refine ⟨⟨by omega, by omega⟩, ⟨by omega, by omega⟩, by omega, ?_⟩
  -- the row is opened
  refine upto (σ := am_H) (N := 6) (I := fun i g => 1 ≤ i → Fr [72] h g ∧ ∀ j, g 72 j = if j = 72 + 6 * c.np then wd s c else if 72 + 6 * c.np < j ∧ j < 72 + 6 * c.np + i then -1 else h 72 j) (G := fun i g => 1 ≤ i → tX12_proofRead (h 0 0 + (0 : Nat)) L xs (am_C true L xs P (d + 2)) K 38 [(2, 59), (0, 72 + 6 * (c.np : Int)), (0, (i : Int)), (9, 0), (9, 0), (9, 0)] [] g) ?_ ?_ 5 1 _ (by omega) ?_ (by decide)
  · intro i g hi I ih h1
    obtain ⟨q1, q2⟩ := I h1
    refine bX12_proofRead_38 ⟨fun y => by omega, fun _ => ⟨⟨by omega, by omega⟩, ⟨by omega, by omega⟩, by omega, ih _ (fun _ => ⟨q1.st (by decide), fun j => ?_⟩) (by omega)⟩⟩
    rw [show Int.toNat (72 + 6 * (c.np : Int) + (i : Int)) = 72 + 6 * c.np + i by omega, st_ap, q2 j]
    by_cases e : j = 72 + 6 * c.np + i
    · rw [if_pos e, if_neg (by omega), if_pos (by omega)]
    · rw [if_neg e]
      by_cases e1 : j = 72 + 6 * c.np
      · rw [if_pos e1, if_pos e1]
      · rw [if_neg e1, if_neg e1]
        by_cases e2 : 72 + 6 * c.np < j ∧ j < 72 + 6 * c.np + i
        · rw [if_pos e2, if_pos (by omega)]
        · rw [if_neg e2, if_neg (by omega)]
  · intro g I _
    obtain ⟨q1, q2⟩ := I (by decide)
    refine bX12_proofRead_38 ⟨fun _ => bX12_proofRead_59 ?_, fun y => absurd (by decide) y⟩
    have o (i : Nat) (hi : ¬ i = 72) : g i = h i := q1 i (by simpa using hi)
    have fc1 : Fc h g := ⟨fun i h1 h2 => o i (by omega), fun j _ => by rw [o 59 (by decide)], fun j hj => by rw [q2 j, if_neg (by omega), if_neg (by omega)], fun j _ => by rw [o 73 (by decide)], fun j _ => by rw [o 75 (by decide)], fun j _ => by rw [o 76 (by decide)]⟩
    have r1 : Mr s n (6 * c.np + 6) (setpr c (row0 c.pr c.np (wd s c))) g := by
      refine ⟨by rw [o 60 (by decide)]; exact r.s60, by rw [o 59 (by decide)]; exact r.st, by rw [o 71 (by decide)]; exact r.wt, r.tk.congr (fun j _ _ => by rw [o 59 (by decide)]), by rw [o 59 (by decide)]; exact r.np, fun j hj => ?_, by rw [o 73 (by decide)]; exact r.se, by rw [o 74 (by decide)]; exact r.td, by rw [o 59 (by decide)]; exact r.nq, by rw [o 75 (by decide)]; exact r.bz, by rw [o 76 (by decide)]; exact r.bl, by rw [o 59 (by decide)]; exact r.z1, by rw [o 59 (by decide)]; exact r.z24⟩
      show g 72 (72 + j) = row0 c.pr c.np (wd s c) j
      rw [q2]
      unfold row0
      by_cases e1 : j = 6 * c.np
      · rw [if_pos (by omega), if_pos e1]
      · rw [if_neg (by omega), if_neg e1]
        by_cases e2 : 6 * c.np < j ∧ j < 6 * c.np + 6
        · rw [if_pos (by omega), if_pos e2]
        · rw [if_neg (by omega), if_neg e2]; exact r.pr j (by omega)
    refine kX12_take' (d := d) r1 w.pr hn (fun g2 f2 r2 => ?_)
    -- the tests
    have key : ∀ (f : Nat) (c2 : Cs) (any : Bool) (x2 : Int) (v3 v4 v5 : am_V) (g2 : am_H), Cw s n c2 → c2.np = c.np → Fz n c2 f → ((any = true ∧ x2 = 1) ∨ (any = false ∧ x2 = 0)) → Fc h g2 → Mr s n (6 * c.np + 6) c2 g2 → (∀ c' g, tests s n f c2 any = .ok c' → Fc h g → Mr s n (6 * c'.np) c' g → K (0, 1) g) → (∀ w p g, tests s n f c2 any = .bad w p → Mb h w p g → K (0, 0) g) → tX12_proofRead (h 0 0 + (0 : Nat)) L xs (am_C true L xs P (d + 2)) K 65 [(2, 59), (0, 72 + 6 * (c.np : Int)), (0, x2), v3, v4, v5] [] g2 := by
      intro f
      induction f with
      | zero => intro c2 any x2 v3 v4 v5 g2 w2 _ hf; have := hf.pos w2; omega
      | succ f ih =>
        intro c2 any x2 v3 v4 v5 g2 w2 enp hf hx fc r2 Ok Bad
        have b210 : ¬ 7 ≤ wd s c2 → tX12_proofRead (h 0 0 + (0 : Nat)) L xs (am_C true L xs P (d + 2)) K 210 [(2, 59), (0, 72 + 6 * (c.np : Int)), (0, x2), v3, v4, v5] [] g2 := by
          intro h7
          refine bX12_proofRead_210 ⟨fun y => bX12_proofRead_220 ?_, fun y => kX12_wrong' (d := d + 1) r2 (fun g b => ⟨by decide, Bad 1 c2.t.fr g ?_ (b.fr fc)⟩)⟩
          · have ha : any = true := (hx.resolve_right (fun q => y q.2)).1
            rw [r2.np, enp]
            refine ⟨⟨by omega, by omega⟩, by decide, Ok (setnp c2) _ ?_ (fc.st59 (by decide)) ?_⟩
            · simp only [tests]; rw [if_neg h7, if_pos ha]
            · have o (i : Nat) (hi : ¬ i = 59) : am_st g2 59 32 ((c.np : Int) + 1) i = g2 i := st_ne hi
              have o5 (j : Nat) (hj : ¬ j = 32) : am_st g2 59 32 ((c.np : Int) + 1) 59 j = g2 59 j := st_nj hj
              refine ⟨by rw [o 60 (by decide)]; exact r2.s60, by rw [o5 26 (by decide)]; exact r2.st, by rw [o 71 (by decide)]; exact r2.wt, r2.tk.congr (fun j h1 h2 => o5 j (by omega)), by rw [st_at]; show (c.np : Int) + 1 = ((c2.np + 1 : Nat) : Int); omega, fun j hj => ?_, by rw [o 73 (by decide)]; exact r2.se, by rw [o 74 (by decide)]; exact r2.td, by rw [o5 37 (by decide)]; exact r2.nq, by rw [o 75 (by decide)]; exact r2.bz, by rw [o 76 (by decide)]; exact r2.bl, by rw [o5 1 (by decide)]; exact r2.z1, by rw [o5 24 (by decide), o5 25 (by decide)]; exact r2.z24⟩
              have hj' : j < 6 * (c2.np + 1) := hj
              rw [o 72 (by decide)]; exact r2.pr j (by omega)
          · have ha : any = false := (hx.resolve_left (fun q => by have := Classical.not_not.mp y; omega)).1
            simp only [tests]; rw [if_neg h7, if_neg (by rw [ha]; decide)]
        refine bX12_proofRead_65 ?_
        rw [r2.tk.k]
        refine ⟨fun y => b210 (fun q => y (wd_k (s := s) (by omega))), fun y => ?_⟩
        have k1 : c2.t.k = 1 := Classical.not_not.mp y
        have ew := wd_w r2 k1
        have wb := wd_bnd (s := s) (c := c2)
        rw [ew]
        refine ⟨fun q => b210 (by omega), fun q => ?_⟩
        have h7 : 7 ≤ wd s c2 := by omega
        have et : ((tst s c2 : Nat) : Int) = wd s c2 - 7 := by unfold tst; omega
        have t4 : tst s c2 ≤ 4 := by omega
        have ei : Int.toNat (72 + 6 * (c.np : Int) + 1 + (wd s c2 - 7)) = 72 + (6 * c2.np + 1 + tst s c2) := by omega
        rw [ei, r2.pr _ (by omega)]
        refine ⟨⟨by omega, by omega⟩, ⟨by omega, by omega⟩, ⟨by omega, by omega⟩, ⟨by omega, by omega⟩, fun y2 => bX12_proofRead_110 ?_, fun y2 => kX12_wrong' (d := d + 1) r2 (fun g b => ⟨by decide, Bad 3 c2.t.fr g (by simp only [tests]; rw [if_pos h7, if_pos y2]) (b.fr fc)⟩)⟩
        refine kX12_take' (d := d) r2 w2 hn (fun g3 f3 r3 => ?_)
        have wa := w2.adv
        have fa := Fz_adv w2 (by omega) hf
        have fc3 := fc.tr f3
        rw [ew]
        -- the test is set and the next token looked at
        have set : ∀ (c3 : Cs) (v : Int) (g4 : am_H) (x4 : Int), Cw s n c3 → c3.np = c.np → c3.pr = c2.pr → Fz n c3 f → Fc h g4 → Mr s n (6 * c.np + 6) c3 g4 → tests s n (f + 1) c2 any = tests s n f (setpr c3 (up c2.pr (6 * c2.np + 1 + tst s c2) v)) true → tX12_proofRead (h 0 0 + (0 : Nat)) L xs (am_C true L xs P (d + 2)) K 193 [(2, 59), (0, 72 + 6 * (c.np : Int)), (0, x2), (0, wd s c2 - 7), (0, x4), (0, v)] [] g4 := by
          intro c3 v g4 x4 w3 enp3 epr fz fc4 r4 el
          rw [el] at Ok Bad
          refine bX12_proofRead_193 ?_
          rw [ei]
          refine ⟨⟨by omega, by omega⟩, ⟨by omega, by omega⟩, ⟨by omega, by omega⟩, ?_⟩
          have r5 := r4.setpr (j := 6 * c2.np + 1 + tst s c2) (v := v) (by omega)
          rw [epr] at r5
          exact ih (setpr c3 (up c2.pr (6 * c2.np + 1 + tst s c2) v)) true 1 _ _ _ _ w3.pr enp3 (fz.mono rfl) (Or.inl ⟨rfl, rfl⟩) (fc4.st72 (by omega)) r5 Ok Bad
        have num : ∀ lo hi : Int, lo = ltv (tst s c2) → hi = htv (tst s c2) → ¬ (tst s c2 = 1 ∨ tst s c2 = 2) → tX12_proofRead (h 0 0 + (0 : Nat)) L xs (am_C true L xs P (d + 2)) K 175 [(2, 59), (0, 72 + 6 * (c.np : Int)), (0, x2), (0, wd s c2 - 7), (0, wd s c2), (0, 0)] [(0, hi), (0, lo), (2, 59)] g3 := by
          intro lo hi hlo hhi n12'
          refine bX12_proofRead_175 (kX12_isNumber (d := d) r3 (fun z2 g b => ?_) (fun z2 z3 g b => ?_) (fun z2 z3 => ?_))
          · refine ⟨fun q => absurd rfl q, fun _ => ⟨by decide, Bad 1 (adv s n c2).t.fr g ?_ (b.fr fc3)⟩⟩
            simp only [tests]; rw [if_pos h7, if_neg (fun q => q y2), if_neg n12', if_pos z2]
          · refine ⟨fun q => absurd rfl q, fun _ => ⟨by decide, Bad 2 (adv s n c2).t.fr g ?_ (b.fr fc3)⟩⟩
            simp only [tests]; rw [if_pos h7, if_neg (fun q => q y2), if_neg n12', if_neg (fun q => q z2), if_pos (by rw [← hlo, ← hhi]; exact z3)]
          · refine ⟨fun _ => bX12_proofRead_183 ?_, fun q => absurd (by decide) q⟩
            refine kX12_take' (d := d) r3 wa.1 hn (fun g5 f5 r5 => ?_)
            have e5 : g3 59 29 = nmv s (adv s n c2) := r3.tk.w2 z2
            rw [e5]
            have fb : Fz n (adv s n (adv s n c2)) f := by
              have h2 : n + 2 ≤ (adv s n c2).t.to + f := fa.resolve_left (fun q => by omega)
              have t2 := wa.1.to
              by_cases e : (adv s n (adv s n c2)).t.k = 0
              · exact Or.inl ⟨e, by omega⟩
              · have := adv_to wa.1 e; exact Or.inr (by omega)
            refine set (adv s n (adv s n c2)) _ g5 _ wa.1.adv.1 enp rfl fb (fc3.tr f5) r5 ?_
            simp only [tests]; rw [if_pos h7, if_neg (fun q => q y2), if_neg n12', if_neg (fun q => q z2), if_neg (fun q => q (by rw [← hlo, ← hhi]; exact z3))]
        have two : (tst s c2 = 1 ∨ tst s c2 = 2) → tX12_proofRead (h 0 0 + (0 : Nat)) L xs (am_C true L xs P (d + 2)) K 193 [(2, 59), (0, 72 + 6 * (c.np : Int)), (0, x2), (0, wd s c2 - 7), (0, wd s c2), (0, 0)] [] g3 := by
          intro h12
          refine set (adv s n c2) 0 g3 _ wa.1 enp rfl fa fc3 r3 ?_
          simp only [tests]; rw [if_pos h7, if_neg (fun q => q y2), if_pos h12]
        have b150 : ∀ lo : Int, lo = ltv (tst s c2) → ¬ (tst s c2 = 1 ∨ tst s c2 = 2) → tX12_proofRead (h 0 0 + (0 : Nat)) L xs (am_C true L xs P (d + 2)) K 150 [(2, 59), (0, 72 + 6 * (c.np : Int)), (0, x2), (0, wd s c2 - 7), (0, wd s c2), (0, 0)] [(0, lo), (2, 59)] g3 := by
          intro lo hlo n12'
          refine bX12_proofRead_150 ⟨fun q1 => bX12_proofRead_161 ⟨fun q2 => bX12_proofRead_173 (num lo 7 hlo ?_ n12'), fun q2 => num lo 8 hlo ?_ n12'⟩, fun q1 => num lo 4 hlo ?_ n12'⟩
          · unfold htv; rw [if_neg (by omega), if_neg (by omega)]
          · unfold htv; rw [if_neg (by omega), if_pos (by omega)]
          · unfold htv; rw [if_pos (by omega)]
        refine ⟨fun q1 => two (by omega), fun q1 => ⟨fun q2 => two (by omega), fun q2 => ⟨fun q3 => bX12_proofRead_149 (b150 1 ?_ (by omega)), fun q3 => b150 0 ?_ (by omega)⟩⟩⟩
        · unfold ltv; rw [if_neg (by omega)]
        · unfold ltv; rw [if_pos (by omega)]
    have ea : adv s n (setpr c (row0 c.pr c.np (wd s c))) = setpr (adv s n c) (row0 c.pr c.np (wd s c)) := rfl
    rw [ea] at r2
    exact key (n + 2) (setpr (adv s n c) (row0 c.pr c.np (wd s c))) false 0 _ _ _ g2 w.adv.1.pr rfl (Fz_0 (Cw.pr (pr := row0 c.pr c.np (wd s c)) w.adv.1)) (Or.inr ⟨rfl, rfl⟩) (fc1.tr f2) r2 Hok Hbad
  · intro _
    refine ⟨Fr.rf.st (by decide), fun j => ?_⟩
    rw [st_ap]
    by_cases e : j = 72 + 6 * c.np
    · rw [if_pos e, if_pos e]
    · rw [if_neg e, if_neg e, if_neg (by omega)]
end
