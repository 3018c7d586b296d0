/-! chm4: the model's bars and whole charter -/
section
variable {L : Nat} {xs : Nat → Int} {P : Nat → List am_V → am_H → am_K → Prop} {d : Nat} {h : am_H} {K : am_K} {s : Nat → Int} {n m : Nat} {c : Cs}
theorem kX12_barRead (r : Mr s n m c h) (w : Cw s n c) (hn : n ≤ 400) (Hok : ∀ c' g, brs s n (n + 2) (adv s n c) false = .ok c' → Fc h g → Mr s n m c' g → K (0, 1) g) (Hbad : ∀ w p g, brs s n (n + 2) (adv s n c) false = .bad w p → Mb h w p g → K (0, 0) g) : am_C true L xs P (d + 3) 158 [(2, 59)] h K := by
  refine eX12_barRead (bX12_barRead_0 (kX12_take' (d := d) r w hn (fun g0 f0 r0 => ?_)))
  have key : ∀ (f : Nat) (c2 : Cs) (any : Bool) (x1 : Int) (v2 v3 v4 v5 : am_V) (g2 : am_H), Cw s n c2 → Fz n c2 f → ((any = true ∧ x1 = 1) ∨ (any = false ∧ x1 = 0)) → Fc h g2 → Mr s n m c2 g2 → (∀ c' g, brs s n f c2 any = .ok c' → Fc h g → Mr s n m c' g → K (0, 1) g) → (∀ w p g, brs s n f c2 any = .bad w p → Mb h w p g → K (0, 0) g) → tX12_barRead (h 0 0 + (0 : Nat)) L xs (am_C true L xs P (d + 2)) K 6 [(2, 59), (0, x1), v2, v3, v4, v5] [] g2 := by
    intro f
    induction f with
    | zero => intro c2 any x1 v2 v3 v4 v5 g2 w2 hf; have := hf.pos w2; omega
    | succ f ih =>
      intro c2 any x1 v2 v3 v4 v5 g2 w2 hf hx fc r2 Ok Bad
      refine bX12_barRead_6 ?_
      rw [r2.tk.k]
      refine ⟨fun y => bX12_barRead_222 ⟨fun q => bX12_barRead_234 (bX12_barRead_239 ⟨by decide, Ok c2 g2 ?_ fc r2⟩), fun q => kX12_wrong' (d := d + 1) r2 (fun g b => ⟨fun _ => bX12_barRead_238 (bX12_barRead_239 ⟨by decide, Bad 1 c2.t.fr g ?_ (b.fr fc)⟩), fun q => absurd rfl q⟩)⟩, fun y => ?_⟩
      · have ha : any = true := (hx.resolve_right (fun p => q p.2)).1
        simp only [brs]; rw [if_neg y, if_pos ha]
      · have ha : any = false := (hx.resolve_left (fun p => by have := Classical.not_not.mp q; omega)).1
        simp only [brs]; rw [if_neg y, if_neg (by rw [ha]; decide)]
      · have k1 : c2.t.k = 1 := Classical.not_not.mp y
        have fo := w2.fr
        have to := w2.to
        have ad := w2.ad (by omega)
        have nq8 := w2.nq
        rw [r2.tk.to, r2.tk.fr, r2.nq]
        obtain ⟨ln, hln⟩ : ∃ ln : Nat, ln = c2.t.to - c2.t.fr := ⟨_, rfl⟩
        have eln : (c2.t.to : Int) - (c2.t.fr : Int) = (ln : Int) := by omega
        rw [eln]
        have two : (8 < c2.t.to - c2.t.fr ∨ c2.nq = 8) → ∀ v3 v4 v5 : am_V, tX12_barRead (h 0 0 + (0 : Nat)) L xs (am_C true L xs P (d + 2)) K 39 [(2, 59), (0, x1), (0, (ln : Int)), v3, v4, v5] [] g2 := by
          intro q v3 v4 v5
          exact bX12_barRead_39 (kX12_wrong' (d := d + 1) r2 (fun g b => ⟨by decide, Bad 2 c2.t.fr g (by simp only [brs]; rw [if_pos k1, if_pos q]) (b.fr fc)⟩))
        refine ⟨⟨by omega, by omega⟩, fun q => two (Or.inl (by omega)) _ _ _, fun q => ⟨fun q2 => bX12_barRead_45 ?_, fun q2 => two (Or.inr (by omega)) _ _ _⟩⟩
        have n8 : ¬ (8 < c2.t.to - c2.t.fr ∨ c2.nq = 8) := by omega
        refine upto (σ := am_V × am_V) (N := c2.nq) (I := fun k _ => ∀ k', k' < k → ¬ (c2.bz k' = c2.t.to - c2.t.fr ∧ ∀ i, i < c2.t.to - c2.t.fr → c2.bl (8 * k' + i) = s (c2.t.fr + i))) (G := fun k v => tX12_barRead (h 0 0 + (0 : Nat)) L xs (am_C true L xs P (d + 2)) K 47 [(2, 59), (0, x1), (0, (ln : Int)), (0, (k : Int)), v.1, v.2] [] g2) ?_ ?_ c2.nq 0 (v4, v5) (by omega) (fun k' hk' => by omega)
        · intro k ⟨v4, v5⟩ hk e1 ihk
          dsimp only at e1 ⊢
          have bz := w2.bz k hk
          have cmp : ∀ (j i : Nat) (x : Int), i + j = ln → ((x = 1 ∧ c2.bz k = c2.t.to - c2.t.fr ∧ ∀ i', i' < i → c2.bl (8 * k + i') = s (c2.t.fr + i')) ∨ (x = 0 ∧ ¬ (c2.bz k = c2.t.to - c2.t.fr ∧ ∀ i, i < c2.t.to - c2.t.fr → c2.bl (8 * k + i) = s (c2.t.fr + i)))) → tX12_barRead (h 0 0 + (0 : Nat)) L xs (am_C true L xs P (d + 2)) K 78 [(2, 59), (0, x1), (0, (ln : Int)), (0, (k : Int)), (0, x), (0, (i : Int))] [] g2 := by
            have fin : ∀ (i : Nat) (x : Int), ((x = 1 ∧ c2.bz k = c2.t.to - c2.t.fr ∧ ∀ i, i < c2.t.to - c2.t.fr → c2.bl (8 * k + i) = s (c2.t.fr + i)) ∨ (x = 0 ∧ ¬ (c2.bz k = c2.t.to - c2.t.fr ∧ ∀ i, i < c2.t.to - c2.t.fr → c2.bl (8 * k + i) = s (c2.t.fr + i)))) → tX12_barRead (h 0 0 + (0 : Nat)) L xs (am_C true L xs P (d + 2)) K 132 [(2, 59), (0, x1), (0, (ln : Int)), (0, (k : Int)), (0, x), (0, (i : Int))] [] g2 := by
              intro i x hx
              refine bX12_barRead_132 ⟨fun z => bX12_barRead_143 ⟨by omega, ihk (_, _) (fun k' hk' => ?_)⟩, fun z => kX12_wrong' (d := d + 1) r2 (fun g b => ⟨by decide, Bad 3 c2.t.fr g ?_ (b.fr fc)⟩)⟩
              · rcases hx with p | p
                · omega
                · by_cases ek : k' = k
                  · rw [ek]; exact p.2
                  · exact e1 k' (by omega)
              · rcases hx with p | p
                · have dp : Dup s c2 := ⟨k, hk, p.2⟩
                  simp only [brs]; rw [if_pos k1, if_neg n8, if_pos dp]
                · omega
            intro j
            induction j with
            | zero =>
              intro i x hi hx
              refine bX12_barRead_78 ⟨fun _ => fin i x ?_, fun z => by omega⟩
              rcases hx with p | p
              · exact Or.inl ⟨p.1, p.2.1, fun i' hi' => p.2.2 i' (by omega)⟩
              · exact Or.inr p
            | succ j ihj =>
              intro i x hi hx
              refine bX12_barRead_78 ⟨fun z => by omega, fun _ => ⟨fun z => fin i x ?_, fun z => ?_⟩⟩
              · rcases hx with p | p
                · omega
                · exact Or.inr p
              · have p := hx.resolve_right (fun p => z p.1)
                rw [r2.tk.fr, show Int.toNat (64 + 8 * (k : Int) + (i : Int)) = 64 + 8 * k + i by omega, show Int.toNat ((c2.t.fr : Int) + (i : Int)) = c2.t.fr + i by omega, r2.s60, r2.bl k i hk (by omega)]
                refine ⟨⟨by omega, by omega⟩, ⟨by omega, by omega⟩, ⟨by omega, by omega⟩, ⟨by omega, by omega⟩, ⟨by omega, by omega⟩, ⟨by omega, by omega⟩, fun z2 => bX12_barRead_123 (bX12_barRead_124 ⟨by omega, ?_⟩), fun z2 => bX12_barRead_124 ⟨by omega, ?_⟩⟩
                · exact ihj (i + 1) 0 (by omega) (Or.inr ⟨rfl, fun y => z2 (y.2 i (by omega))⟩)
                · refine ihj (i + 1) 1 (by omega) (Or.inl ⟨rfl, p.2.1, fun i' hi' => ?_⟩)
                  by_cases ei : i' = i
                  · rw [ei]; exact Classical.not_not.mp z2
                  · exact p.2.2 i' (by omega)
          refine bX12_barRead_47 ?_
          rw [r2.nq, show Int.toNat (8 + (k : Int)) = 8 + k by omega, r2.bz k hk]
          refine ⟨fun z => by omega, fun _ => ⟨by omega, by omega, fun z => bX12_barRead_72 (bX12_barRead_73 (cmp ln 0 0 (by omega) (Or.inr ⟨rfl, fun y => z (by have := y.1; omega)⟩))), fun z => bX12_barRead_73 (cmp ln 0 1 (by omega) (Or.inl ⟨rfl, by have := Classical.not_not.mp z; omega, fun i' hi' => by omega⟩))⟩⟩
        · intro ⟨v4, v5⟩ e1
          dsimp only at e1 ⊢
          have nd' : ¬ Dup s c2 := fun ⟨k, hk, p⟩ => e1 k hk p
          have el : brs s n (f + 1) c2 any = brs s n f (adv s n (addb s c2)) true := by simp only [brs]; rw [if_pos k1, if_neg n8, if_neg nd']
          rw [el] at Ok Bad
          refine bX12_barRead_47 ?_
          rw [r2.nq]
          refine ⟨fun _ => bX12_barRead_149 ?_, fun z => by omega⟩
          rw [r2.nq, show Int.toNat (8 + (c2.nq : Int)) = 8 + c2.nq by omega]
          refine ⟨⟨by omega, by omega⟩, by omega, ?_⟩
          -- the letters are copied
          refine upto (σ := am_H) (N := ln) (I := fun i g => Fr [76] (am_st g2 75 (8 + c2.nq) (ln : Int)) g ∧ ∀ j, g 76 j = if 64 + 8 * c2.nq ≤ j ∧ j < 64 + 8 * c2.nq + i then s (c2.t.fr + (j - (64 + 8 * c2.nq))) else g2 76 j) (G := fun i g => tX12_barRead (h 0 0 + (0 : Nat)) L xs (am_C true L xs P (d + 2)) K 164 [(2, 59), (0, x1), (0, (ln : Int)), (0, (i : Int)), v4, v5] [] g) ?_ ?_ ln 0 _ (by omega) ⟨Fr.rf, fun j => by rw [if_neg (by omega), st_ne (by decide)]⟩
          · intro i g hi ⟨p1, p2⟩ ihi
            have e59 : g 59 = g2 59 := by rw [p1 59 (by decide), st_ne (by decide)]
            have e60 : g 60 = g2 60 := by rw [p1 60 (by decide), st_ne (by decide)]
            refine bX12_barRead_164 ⟨fun z => by omega, fun _ => ?_⟩
            rw [e59, r2.nq, r2.tk.fr, e60, r2.s60, show Int.toNat (64 + 8 * (c2.nq : Int) + (i : Int)) = 64 + 8 * c2.nq + i by omega, show Int.toNat ((c2.t.fr : Int) + (i : Int)) = c2.t.fr + i by omega]
            refine ⟨⟨by omega, by omega⟩, ⟨by omega, by omega⟩, ⟨by omega, by omega⟩, ⟨by omega, by omega⟩, ⟨by omega, by omega⟩, ⟨by omega, by omega⟩, by omega, ihi _ ⟨p1.st (by decide), fun j => ?_⟩⟩
            rw [st_ap, p2 j]
            by_cases e : j = 64 + 8 * c2.nq + i
            · rw [if_pos e, if_pos (by omega), e]; congr 1; omega
            · rw [if_neg e]
              by_cases e2 : 64 + 8 * c2.nq ≤ j ∧ j < 64 + 8 * c2.nq + i
              · rw [if_pos e2, if_pos (by omega)]
              · rw [if_neg e2, if_neg (by omega)]
          · intro g ⟨p1, p2⟩
            have o (i : Nat) (h1 : ¬ i = 76) (h2 : ¬ i = 75) : g i = g2 i := by rw [p1 i (by simpa using h1), st_ne h2]
            have e75 : ∀ j, g 75 j = if j = 8 + c2.nq then (ln : Int) else g2 75 j := fun j => by rw [p1 75 (by decide), st_ap]
            refine bX12_barRead_164 ⟨fun _ => bX12_barRead_203 ?_, fun z => by omega⟩
            rw [o 59 (by decide) (by decide), r2.nq]
            refine ⟨⟨by omega, by omega⟩, ?_⟩
            generalize hg3 : am_st g 59 37 ((c2.nq : Int) + 1) = g3
            have o3 (i : Nat) (h1 : ¬ i = 76) (h2 : ¬ i = 75) (h3 : ¬ i = 59) : g3 i = g2 i := by rw [← hg3, st_ne h3]; exact o i h1 h2
            have o9 (j : Nat) (hj : ¬ j = 37) : g3 59 j = g2 59 j := by rw [← hg3, st_nj hj, o 59 (by decide) (by decide)]
            have fc3 : Fc h g3 := by
              refine fc.tr ⟨fun i h1 h2 => o3 i (by omega) (by omega) h1, fun j hj => o9 j (by omega), fun j _ => by rw [o3 72 (by decide) (by decide) (by decide)], fun j _ => by rw [o3 73 (by decide) (by decide) (by decide)], fun j hj => ?_, fun j hj => ?_⟩
              · rw [← hg3, st_ne (by decide), e75, if_neg (by omega)]
              · rw [← hg3, st_ne (by decide), p2, if_neg (by omega)]
            have r3 : Mr s n m (addb s c2) g3 := by
              refine ⟨by rw [o3 60 (by decide) (by decide) (by decide)]; exact r2.s60, by rw [o9 26 (by decide)]; exact r2.st, by rw [o3 71 (by decide) (by decide) (by decide)]; exact r2.wt, r2.tk.congr (fun j h1 h2 => o9 j (by omega)), by rw [o9 32 (by decide)]; exact r2.np, by rw [o3 72 (by decide) (by decide) (by decide)]; exact r2.pr, by rw [o3 73 (by decide) (by decide) (by decide)]; exact r2.se, by rw [o3 74 (by decide) (by decide) (by decide)]; exact r2.td, by rw [← hg3, st_at]; show (c2.nq : Int) + 1 = ((c2.nq + 1 : Nat) : Int); omega, fun k hk => ?_, fun k i hk hi => ?_, by rw [o9 1 (by decide)]; exact r2.z1, by rw [o9 24 (by decide), o9 25 (by decide)]; exact r2.z24⟩
              · have hk' : k < c2.nq + 1 := hk
                show g3 75 (8 + k) = ((if k = c2.nq then c2.t.to - c2.t.fr else c2.bz k : Nat) : Int)
                rw [← hg3, st_ne (by decide), e75]
                by_cases e : k = c2.nq
                · rw [if_pos (by omega), if_pos e, hln]
                · rw [if_neg (by omega), if_neg e]; exact r2.bz k (by omega)
              · have hk' : k < c2.nq + 1 := hk
                have hi' : i < (if k = c2.nq then c2.t.to - c2.t.fr else c2.bz k) := hi
                show g3 76 (64 + 8 * k + i) = if 8 * c2.nq ≤ 8 * k + i ∧ 8 * k + i < 8 * c2.nq + (c2.t.to - c2.t.fr) then s (c2.t.fr + (8 * k + i - 8 * c2.nq)) else c2.bl (8 * k + i)
                rw [← hg3, st_ne (by decide), p2]
                by_cases e : k = c2.nq
                · rw [if_pos e] at hi'
                  rw [if_pos (by omega), if_pos (by omega)]
                  congr 1; omega
                · rw [if_neg e] at hi'
                  have b8 := (w2.bz k (by omega)).2.1
                  rw [if_neg (by omega), if_neg (by omega)]
                  exact r2.bl k i (by omega) hi'
            have w3 := w2.addb k1 n8
            refine kX12_take' (d := d) r3 w3 hn (fun g4 f4 r4 => ?_)
            exact ih _ true 1 _ _ _ _ g4 w3.adv.1 (Fz_adv w3 (by show ¬ c2.t.k = 0; omega) (hf.mono rfl)) (Or.inl ⟨rfl, rfl⟩) (fc3.tr f4) r4 Ok Bad
  exact key (n + 2) _ false 0 _ _ _ _ g0 w.adv.1 (Fz_0 w.adv.1) (Or.inr ⟨rfl, rfl⟩) f0 r0 Hok Hbad
theorem kX12_plain (H : ∀ g, Fc h g → (∀ j, ¬ j = 32 → ¬ j = 37 → g 59 j = h 59 j) → g 59 32 = 0 → g 59 37 = 0 → (∀ k, k < 4 → g 73 (4 + k) = (if k = 0 then 66 else if k = 1 then 4 else if k = 2 then 18 else 10)) → (∀ k, k < 4 → g 74 k = 0) → K (9, 0) g) : am_C true L xs P (d + 1) 154 [(2, 59)] h K := by
  refine eX12_plain (bX12_plain_0 ⟨by decide, by decide, by decide, by decide, ?_⟩)
  show tX12_plain (h 0 0 + (0 : Nat)) L xs (am_C true L xs P d) K 45 [(2, 59), (0, 0)] [] (am_st (am_st (am_st (am_st (am_st (am_st h 59 32 0) 59 37 0) 73 4 66) 73 5 4) 73 6 18) 73 7 10)
  generalize hg : am_st (am_st (am_st (am_st (am_st (am_st h 59 32 0) 59 37 0) 73 4 66) 73 5 4) 73 6 18) 73 7 10 = g0
  have f0 : Fc h g0 := by rw [← hg]; exact (((((Fc.rf.st59 (by decide)).st59 (by decide)).st73 (by decide)).st73 (by decide)).st73 (by decide)).st73 (by decide)
  have a1 : ∀ j, ¬ j = 32 → ¬ j = 37 → g0 59 j = h 59 j := fun j h1 h2 => by rw [← hg, st_ne (by decide), st_ne (by decide), st_ne (by decide), st_ne (by decide), st_nj h2, st_nj h1]
  have a2 : g0 59 32 = 0 ∧ g0 59 37 = 0 := by rw [← hg]; simp [am_st]
  have a3 : ∀ k, k < 4 → g0 73 (4 + k) = (if k = 0 then 66 else if k = 1 then 4 else if k = 2 then 18 else 10) := by
    intro k hk
    rw [← hg]
    match k, hk with
    | 0, _ => simp [am_st]
    | 1, _ => simp [am_st]
    | 2, _ => simp [am_st]
    | 3, _ => simp [am_st]
  refine upto (σ := am_H) (N := 4) (I := fun i g => Fr [74] g0 g ∧ Fc h g ∧ ∀ k, k < i → g 74 k = 0) (G := fun i g => tX12_plain (h 0 0 + (0 : Nat)) L xs (am_C true L xs P d) K 45 [(2, 59), (0, (i : Int))] [] g) ?_ ?_ 4 0 g0 (by omega) ⟨Fr.rf, f0, fun k hk => by omega⟩
  · intro i g hi ⟨q1, q2, q3⟩ ih
    refine bX12_plain_45 ⟨fun z => by omega, fun _ => ⟨⟨by omega, by omega, by decide, by decide⟩, by omega, ih _ ⟨q1.st (by decide), q2.st74, fun k hk => ?_⟩⟩⟩
    rw [Int.toNat_natCast, st_ap]
    split
    · rfl
    · exact q3 k (by omega)
  · intro g ⟨q1, q2, q3⟩
    refine bX12_plain_45 ⟨fun _ => bX12_plain_63 (H g q2 (fun j h1 h2 => by rw [q1 59 (by decide)]; exact a1 j h1 h2) (by rw [q1 59 (by decide)]; exact a2.1) (by rw [q1 59 (by decide)]; exact a2.2) (by rw [q1 73 (by decide)]; exact a3) q3), fun z => absurd (by decide) z⟩
end
