/-! lett5: letters, class and model -/
theorem LkT.sgn {h : am_H} (t : LkT h) : sgn h = h 60 := funext (fun j => t.sg j)
theorem Inv.lett {h g : am_H} (I : Inv h) (t : LkT g) (f : LkF g) (l : LkL g) (aN : agree DN h g) (aR : agree DR h g) (aP : agree DP h g) (aY : agree DY h g) (aW : agree DW h g) : Inv g := by
  obtain ⟨⟨N, nb, n⟩, ⟨nm, r⟩, ⟨c, np, nq, p, s⟩, _, _, _, y, w⟩ := I
  exact ⟨⟨N, nb, n.cg aN⟩, ⟨nm, r.cg aR⟩, ⟨c, np, nq, p.cg aP, s.cg p.hc aP⟩, t, f, l, y.cg aY, w.cg aW⟩
section
variable {L : Nat} {xs : Nat → Int} {P : Nat → List am_V → am_H → am_K → Prop} {d : Nat} {h : am_H} {K : am_K} {Q : am_V → am_V → am_H → Prop}
theorem lres_fr {g : am_H} {s : Nat → Int} {n : Nat} {A W : Int} {M nq : Nat} (h75 : g 75 = h 75) (h76 : g 76 = h 76) : lres g s n A W M nq = lres h s n A W M nq := by
  have : Br g s nq n = Br h s nq n := by funext k; unfold Br Bd; rw [h75, h76]
  unfold lres; rw [this]
theorem kX3_cut {c n nq M : Nat} {A W : Int} (hc : c = 5 ∨ c = 11) (hn : n ≤ 400) (hA : h (c + 1) 0 = A) (hMv : h (c + 1) 1 = M) (hWv : h (c + 1) 2 = W) (hA0 : 0 ≤ A) (hW : 0 ≤ W ∧ W ≤ 30) (hM : 1 ≤ M ∧ M ≤ 6) (h6 : h c 6 = nq) (hq8 : nq ≤ 8) (bl : ∀ k, k < nq → BL h c 0 0 k) (H : ∀ g, Fr [17, 18, 19] h g → LZ h g (sgn h) n A W M nq → K (0, if (lres h (sgn h) n A W M nq).1 = 0 then (((lb (sgn h) n W M n 0 0 0 (fun _ => 0)).2.1 : Nat) : Int) else -1) g) : am_C true L xs P (d + 6) 30 [(2, 17), (0, (n : Int)), (2, (c : Int))] h K := by
  rcases hc with e | e <;> subst e
  · exact kX3_cut_0 hn hA hMv hWv hA0 hW hM h6 hq8 bl H
  · exact kX3_cut_1 hn hA hMv hWv hA0 hW hM h6 hq8 bl H
theorem pr_letter {x : Int} (I : Inv h) (H : ∀ v g, Inv g → g 0 = h 0 → Q (0, v) (0, v) g) : am_C true L xs P (d + 24) 104 [(2, 1), (0, x)] h (fun r1 h1 => am_C true L xs P (d + 24) 162 [(2, 59), (0, x)] h1 (fun r2 h2 => Q r1 r2 h2)) := by
  obtain ⟨c, np, nq, p, s⟩ := I.p
  have t := I.t
  have in4 := t.in4
  have sz := t.sz
  have r1 := s.r1
  obtain ⟨M, hM⟩ : ∃ M : Nat, h 73 1 = M := ⟨(h 73 1).toNat, by omega⟩
  have szs : ∀ k, k < nq → 1 ≤ h 75 k ∧ h 75 k ≤ 8 := fun k hk => by have := (s.br k hk).sz; rw [Nat.zero_add] at this; exact this
  refine eX11_letter (bX11_letter_0 (kX8_holds (d := d + 22) (fun z => ⟨fun q => absurd rfl q, fun _ => ?_⟩) (fun z => ⟨fun _ => bX11_letter_14 ?_, fun q => absurd (by decide) q⟩)))
  · refine kX12_letter (d := d + 22) in4.2 rfl hM rfl (by have := s.r0; omega) (by have := s.r2; omega) (by omega) s.n2 s.n8 szs (fun _ => H _ _ (I.xs MS.t0.xs) (XS.h0 MS.t0.xs)) (fun q => by omega)
  · obtain ⟨n, hn⟩ : ∃ n : Nat, x = n := ⟨x.toNat, by omega⟩
    subst hn
    rw [p.h41]
    have fin : ∀ (g1 : am_H), Fr [17, 18, 19] h g1 → LZ h g1 (sgn h) n (h 73 0) (h 73 2) M nq → am_C true L xs P (d + 24) 162 [(2, 59), (0, (n : Int))] (am_st (am_st (am_st g1 2 1 0) 1 11 (g1 17 5)) 1 12 (g1 17 6)) (fun r2 h2 => Q (0, if (lres h (sgn h) n (h 73 0) (h 73 2) M nq).1 = 0 then (((lb (sgn h) n (h 73 2) M n 0 0 0 (fun _ => 0)).2.1 : Nat) : Int) else -1) r2 h2) := by
      intro g1 fr lz
      generalize hg2 : am_st (am_st (am_st g1 2 1 0) 1 11 (g1 17 5)) 1 12 (g1 17 6) = g2
      have e2 : ∀ i, ¬ i = 1 → ¬ i = 2 → g2 i = g1 i := fun i h1 h2 => by rw [← hg2, st_ne h1, st_ne h1, st_ne h2]
      have eh : ∀ i, ¬ i = 1 → ¬ i = 2 → ¬ (17 ≤ i ∧ i ≤ 19) → g2 i = h i := fun i h1 h2 h3 => by rw [e2 i h1 h2, fr i (by simp; omega)]
      refine kX12_letter (d := d + 22) (nq := nq) (M := M) (A := h 73 0) (W := h 73 2) (by rw [eh 59 (by decide) (by decide) (by decide)]; exact in4.2) (by rw [eh 73 (by decide) (by decide) (by decide)]) (by rw [eh 73 (by decide) (by decide) (by decide)]; exact hM) (by rw [eh 73 (by decide) (by decide) (by decide)]) (by have := s.r0; omega) (by have := s.r2; omega) (by omega) (by rw [eh 59 (by decide) (by decide) (by decide)]; exact s.n2) s.n8 (by rw [eh 75 (by decide) (by decide) (by decide)]; exact szs) (fun q => absurd ?_ q) (fun _ g3 fl lm => ?_)
      · rw [eh 59 (by decide) (by decide) (by decide), ← sz]; exact z
      · rw [Int.toNat_natCast] at lm ⊢
        have e60 : g2 60 = sgn h := by rw [eh 60 (by decide) (by decide) (by decide)]; exact t.sgn.symm
        have el : lres g2 (sgn h) n (h 73 0) (h 73 2) M nq = lres h (sgn h) n (h 73 0) (h 73 2) M nq := lres_fr (eh 75 (by decide) (by decide) (by decide)) (eh 76 (by decide) (by decide) (by decide))
        obtain ⟨m1, m2, m3, m4, m5⟩ := lm
        rw [e60, el] at m1 m2 m4 m5 ⊢
        obtain ⟨z1, z2, z3, z4⟩ := lz
        have F : ∀ i, ¬ i = 1 → ¬ i = 2 → ¬ (17 ≤ i ∧ i ≤ 19) → ¬ i = 59 → ¬ i = 77 → ¬ i = 78 → g3 i = h i := fun i h1 h2 h3 h4 h5 h6 => by rw [fl.1 i h4 h5 h6, eh i h1 h2 h3]
        have G59 : ∀ j, ¬ j = 1 → ¬ j = 2 → ¬ j = 24 → ¬ j = 25 → ¬ j = 40 → ¬ j = 42 → g3 59 j = h 59 j := fun j h1 h2 h3 h4 h5 h6 => by rw [fl.2 j h1 h2 h3 h4 h5 h6, eh 59 (by decide) (by decide) (by decide)]
        have c1 : ∀ j, ¬ j = 11 → ¬ j = 12 → g3 1 j = h 1 j := fun j h1 h2 => by rw [fl.1 1 (by decide) (by decide) (by decide), ← hg2, st_nj h2, st_nj h1, st_ne (by decide), fr 1 (by decide)]
        have c17 : g3 17 = g1 17 := by rw [fl.1 17 (by decide) (by decide) (by decide), e2 17 (by decide) (by decide)]
        have c18 : g3 18 = g1 18 := by rw [fl.1 18 (by decide) (by decide) (by decide), e2 18 (by decide) (by decide)]
        have ag : ∀ D : List (Nat × Option Nat), D.all (fun p => !(p.1 == 2) && !(17 ≤ p.1 && p.1 ≤ 19) && !(p.1 == 77) && !(p.1 == 78) && (!(p.1 == 1) || (match p.2 with | none => false | some i => !(i == 11) && !(i == 12))) && (!(p.1 == 59) || (match p.2 with | none => false | some i => !(i == 1) && !(i == 2) && !(i == 24) && !(i == 25) && !(i == 40) && !(i == 42)))) = true → agree D h g3 := by
          intro D hD p hp
          have y := (List.all_eq_true.mp hD) p hp
          revert y
          cases p.2 with
          | none =>
            intro y
            simp at y
            exact F p.1 (by omega) (by omega) (by omega) (by omega) (by omega) (by omega)
          | some i =>
            intro y
            simp at y
            show g3 p.1 i = h p.1 i
            by_cases e : p.1 = 59
            · rw [e]
              have := y.2.resolve_left (fun z => z e)
              exact G59 i (by omega) (by omega) (by omega) (by omega) (by omega) (by omega)
            · by_cases e1 : p.1 = 1
              · rw [e1]
                have := y.1.2.resolve_left (fun z => z e1)
                exact c1 i this.1 this.2
              · rw [F p.1 e1 (by omega) (by omega) e (by omega) (by omega)]
        have g21 : g3 2 1 = 0 := by rw [fl.1 2 (by decide) (by decide) (by decide), ← hg2, st_ne (by decide), st_ne (by decide), st_at]
        have lt : LkT g3 := ⟨by rw [g21, m3], by rw [m3]; decide, fun j => by rw [F 3 (by decide) (by decide) (by decide) (by decide) (by decide) (by decide), F 60 (by decide) (by decide) (by decide) (by decide) (by decide) (by decide)]; exact t.sg j⟩
        have lf : LkF g3 := by
          refine ⟨?_, ?_⟩
          · rw [m1, fl.1 1 (by decide) (by decide) (by decide), ← hg2, st_nj (by decide), st_at]; exact z1
          · rw [m2, fl.1 1 (by decide) (by decide) (by decide), ← hg2, st_at]; exact z2
        have ll : LkL g3 := by
          by_cases e : (lres h (sgn h) n (h 73 0) (h 73 2) M nq).1 = 0
          · have a := z3 e
            have b := m4 e
            exact ⟨by rw [c17, a.1, b.1], by rw [b.1]; have := a.2.1; omega, fun k hk => by rw [c18, a.2.2 k (by rw [b.1] at hk; omega), b.2 k (by rw [b.1] at hk; omega)]⟩
          · have a := z4 e
            have b := m5 e
            have l := I.l
            have w40 : g2 59 40 = h 59 40 := by rw [eh 59 (by decide) (by decide) (by decide)]
            have w77 : g2 77 = h 77 := eh 77 (by decide) (by decide) (by decide)
            exact ⟨by rw [c17, a.1, b.1, w40]; exact l.n, by rw [b.1, w40]; exact l.n6, fun k hk => by rw [c18, a.2, b.2, w77]; exact l.li k (by rw [b.1, w40] at hk; exact hk)⟩
        exact H _ _ (I.lett lt lf ll (ag _ rfl) (ag _ rfl) (ag _ rfl) (ag _ rfl) (ag _ rfl)) (F 0 (by decide) (by decide) (by decide) (by decide) (by decide) (by decide))
    have cutL : am_C true L xs P (d + 23) 30 [(2, 17), (0, (n : Int)), (2, (c : Int))] h (fun r1 h1 => am_C true L xs P (d + 24) 162 [(2, 59), (0, (n : Int))] (am_st (am_st (am_st h1 2 1 0) 1 11 (h1 17 5)) 1 12 (h1 17 6)) (fun r2 h2 => Q (0, r1.2) r2 h2)) :=
      kX3_cut (d := d + 17) p.hc (by omega) (s.se 0 (by decide)) (by rw [s.se 1 (by decide)]; exact hM) (s.se 2 (by decide)) (by have := s.r0; omega) (by have := s.r2; omega) (by omega) s.n1 s.n8 s.br (fun g1 fr lz => fin g1 fr lz)
    rcases p.hc with e | e <;> subst e
    · exact bX11_letter_26_0 cutL
    · exact bX11_letter_26_1 cutL
end
