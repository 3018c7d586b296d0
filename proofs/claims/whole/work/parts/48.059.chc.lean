/-! chc: the class takes a token, a number, a word -/
/-- only 4, 5 and 6 of the reader differ -/
def F4 (h g : am_H) : Prop := (∀ i, ¬ i = 4 → g i = h i) ∧ ∀ j, ¬ (4 ≤ j ∧ j ≤ 6) → g 4 j = h 4 j
theorem F4.rf {h : am_H} : F4 h h := ⟨fun _ _ => rfl, fun _ _ => rfl⟩
theorem F4.st {h g : am_H} {j : Nat} {v : Int} (a : F4 h g) (hj : 4 ≤ j ∧ j ≤ 6) : F4 h (am_st g 4 j v) := ⟨fun i h1 => by rw [st_ne h1]; exact a.1 i h1, fun i h1 => by rw [st_nj (by omega)]; exact a.2 i h1⟩
theorem sgn_of3 {h g : am_H} (e : g 3 = h 3) : sgn g = sgn h := by funext j; unfold sgn; rw [e]
theorem F4.sgn {h g : am_H} (a : F4 h g) : sgn g = sgn h := sgn_of3 (a.1 3 (by decide))
section
variable {L : Nat} {xs : Nat → Int} {P : Nat → List am_V → am_H → am_K → Prop} {d : Nat} {h : am_H} {K : am_K}
theorem kX1_advance {p n : Nat} (hp : p ≤ n) (hn : n ≤ 400) (h3 : h 4 3 = n) (h6 : h 4 6 = p) (H : ∀ g, F4 h g → g 4 4 = (tk (sgn h) n p).k → g 4 5 = (tk (sgn h) n p).fr → g 4 6 = (tk (sgn h) n p).to → K (9, 0) g) : am_C true L xs P (d + 3) 19 [(2, 4)] h K := by
  refine eX1_advance (bX1_advance_0 ?_)
  rw [h6]
  have fb := tfr_bnd (s := sgn h) hp
  have skip : ∀ (f q : Nat) (g : am_H), q + f = n → tfr (sgn h) n p = run (Ws (sgn h)) f q → F4 h g → g 4 5 = (q : Int) → (∀ g, F4 h g → g 4 5 = (tfr (sgn h) n p : Int) → tX1_advance (h 0 0 + (0 : Nat)) L xs (am_C true L xs P (d + 2)) K 64 [(2, 4)] [] g) → tX1_advance (h 0 0 + (0 : Nat)) L xs (am_C true L xs P (d + 2)) K 8 [(2, 4)] [] g := by
    intro f
    induction f with
    | zero =>
      intro q g hq he fg g5 G
      simp only [run] at he
      refine bX1_advance_8 ?_
      rw [fg.2 3 (by decide), h3, g5]
      exact ⟨fun _ => G g fg (by rw [g5, he]), fun z => by omega⟩
    | succ f ih =>
      intro q g hq he fg g5 G
      have go : Ws (sgn h) q → tX1_advance (h 0 0 + (0 : Nat)) L xs (am_C true L xs P (d + 2)) K 51 [(2, 4)] [] g := by
        intro hwq
        rw [run_step hwq] at he
        refine bX1_advance_51 ?_
        rw [g5]
        refine ⟨by omega, ih (q + 1) _ (by omega) he (fg.st (by decide)) (by rw [st_at]; omega) G⟩
      refine bX1_advance_8 ?_
      rw [fg.2 3 (by decide), h3, g5]
      refine ⟨fun z => by omega, fun _ => kX8_sign (d := d + 1) (by omega) ?_⟩
      rw [sgn_eq, fg.sgn]
      dsimp only
      refine ⟨fun z => go (Or.inl z), fun z => ?_⟩
      rw [g5]
      refine kX8_sign (d := d + 1) (by omega) ?_
      rw [sgn_eq, fg.sgn]
      dsimp only
      refine ⟨fun z2 => ?_, fun z2 => go (Or.inr (Classical.not_not.mp z2))⟩
      rw [run_stop (show ¬ Ws (sgn h) q by rintro (y | y); exact z y; exact z2 y)] at he
      exact G g fg (by rw [g5, he])
  refine skip (n - p) p _ (by omega) rfl (F4.rf.st (by decide)) st_at (fun g fg g5 => bX1_advance_64 ?_)
  generalize hF : tfr (sgn h) n p = F at *
  rw [g5, fg.2 3 (by decide), h3]
  have fg1 : F4 h (am_st g 4 6 (F : Int)) := fg.st (by decide)
  have a5 : am_st g 4 6 (F : Int) 4 5 = (F : Int) := by rw [st_nj (by decide)]; exact g5
  have a6 : am_st g 4 6 (F : Int) 4 6 = (F : Int) := st_at
  generalize hg1 : am_st g 4 6 (F : Int) = g1 at *
  refine ⟨fun z => bX1_advance_91 ?_, fun z => bX1_advance_240 ?_⟩
  · have hlt : F < n := by omega
    rw [a5]
    refine kX8_isSmallLetter (d := d) (by omega) (fun zs => ?_) (fun zs => ?_)
    · rw [sgn_eq, fg1.sgn] at zs
      have ns : ¬ Sm (sgn h) F := zs
      refine ⟨fun _ => bX1_advance_148 ?_, fun q => absurd rfl q⟩
      rw [a5]
      refine kX8_isDigit (d := d) (by omega) (fun zd => ?_) (fun zd => ?_)
      · rw [sgn_eq, fg1.sgn] at zd
        have nd' : ¬ Dg (sgn h) F := zd
        have et : tk (sgn h) n p = ⟨if sgn h F = 59 then 3 else 4, F, F + 1⟩ := by
          unfold tk; rw [hF, if_neg (by omega), if_neg ns, if_neg nd']
        have fin : ∀ x : Int, x = (if sgn h F = 59 then 3 else 4) → tX1_advance (h 0 0 + (0 : Nat)) L xs (am_C true L xs P (d + 2)) K 227 [(2, 4)] [(0, x), (2, 4)] g1 := by
          intro x hx
          refine bX1_advance_227 ?_
          rw [a5]
          refine ⟨by omega, bX1_advance_240 ?_⟩
          rw [et] at H
          exact H _ ((fg1.st (by decide)).st (by decide)) (by rw [st_nj (by decide), st_at]; exact hx) (by rw [st_nj (by decide), st_nj (by decide)]; exact a5) (by rw [st_at]; show (F : Int) + 1 = ((F + 1 : Nat) : Int); omega)
        refine ⟨fun _ => bX1_advance_205 ?_, fun q => absurd rfl q⟩
        rw [a5]
        refine kX8_sign (d := d + 1) (by omega) ?_
        rw [sgn_eq, fg1.sgn]
        dsimp only
        exact ⟨fun q => bX1_advance_226 (fin 4 (by rw [if_neg q])), fun q => fin 3 (by rw [if_pos (Classical.not_not.mp q)])⟩
      · rw [sgn_eq, fg1.sgn] at zd
        have et : tk (sgn h) n p = ⟨2, F, run (Dg (sgn h)) (n - F) F⟩ := by
          unfold tk; rw [hF, if_neg (by omega), if_neg ns, if_pos (show Dg (sgn h) F from zd)]
        rw [et] at H
        refine ⟨fun q => absurd q (by decide), fun _ => ?_⟩
        have dig : ∀ (f q : Nat) (g2 : am_H), q + f = n → run (Dg (sgn h)) (n - F) F = run (Dg (sgn h)) f q → F4 h g2 → g2 4 4 = 2 → g2 4 5 = (F : Int) → g2 4 6 = (q : Int) → tX1_advance (h 0 0 + (0 : Nat)) L xs (am_C true L xs P (d + 2)) K 167 [(2, 4)] [] g2 := by
          intro f
          induction f with
          | zero =>
            intro q g2 hq he f2 b4 b5 b6
            simp only [run] at he
            refine bX1_advance_167 ?_
            rw [f2.2 3 (by decide), h3, b6]
            exact ⟨fun _ => bX1_advance_240 (H g2 f2 b4 b5 (by rw [b6]; show (q : Int) = ((run (Dg (sgn h)) (n - F) F : Nat) : Int); rw [he])), fun y => by omega⟩
          | succ f ih =>
            intro q g2 hq he f2 b4 b5 b6
            refine bX1_advance_167 ?_
            rw [f2.2 3 (by decide), h3, b6]
            refine ⟨fun y => by omega, fun _ => kX8_isDigit (d := d) (by omega) (fun y => ?_) (fun y => ?_)⟩
            · rw [sgn_eq, f2.sgn] at y
              rw [run_stop (show ¬ Dg (sgn h) q from y)] at he
              exact ⟨fun _ => bX1_advance_240 (H g2 f2 b4 b5 (by rw [b6]; show (q : Int) = ((run (Dg (sgn h)) (n - F) F : Nat) : Int); rw [he])), fun y => absurd rfl y⟩
            · rw [sgn_eq, f2.sgn] at y
              rw [run_step (show Dg (sgn h) q from y)] at he
              refine ⟨fun w => absurd w (by decide), fun _ => ?_⟩
              rw [b6]
              exact ⟨by omega, ih (q + 1) _ (by omega) he (f2.st (by decide)) (by rw [st_nj (by decide)]; exact b4) (by rw [st_nj (by decide)]; exact b5) (by rw [st_at]; omega)⟩
        exact dig (n - F) F _ (by omega) rfl (fg1.st (by decide)) st_at (by rw [st_nj (by decide)]; exact a5) (by rw [st_nj (by decide)]; exact a6)
    · rw [sgn_eq, fg1.sgn] at zs
      have et : tk (sgn h) n p = ⟨1, F, run (Sm (sgn h)) (n - F) F⟩ := by
        unfold tk; rw [hF, if_neg (by omega), if_pos (show Sm (sgn h) F from zs)]
      rw [et] at H
      refine ⟨fun q => absurd q (by decide), fun _ => ?_⟩
      have sml : ∀ (f q : Nat) (g2 : am_H), q + f = n → run (Sm (sgn h)) (n - F) F = run (Sm (sgn h)) f q → F4 h g2 → g2 4 4 = 1 → g2 4 5 = (F : Int) → g2 4 6 = (q : Int) → tX1_advance (h 0 0 + (0 : Nat)) L xs (am_C true L xs P (d + 2)) K 110 [(2, 4)] [] g2 := by
        intro f
        induction f with
        | zero =>
          intro q g2 hq he f2 b4 b5 b6
          simp only [run] at he
          refine bX1_advance_110 ?_
          rw [f2.2 3 (by decide), h3, b6]
          exact ⟨fun _ => bX1_advance_240 (H g2 f2 b4 b5 (by rw [b6]; show (q : Int) = ((run (Sm (sgn h)) (n - F) F : Nat) : Int); rw [he])), fun y => by omega⟩
        | succ f ih =>
          intro q g2 hq he f2 b4 b5 b6
          refine bX1_advance_110 ?_
          rw [f2.2 3 (by decide), h3, b6]
          refine ⟨fun y => by omega, fun _ => kX8_isSmallLetter (d := d) (by omega) (fun y => ?_) (fun y => ?_)⟩
          · rw [sgn_eq, f2.sgn] at y
            rw [run_stop (show ¬ Sm (sgn h) q from y)] at he
            exact ⟨fun _ => bX1_advance_240 (H g2 f2 b4 b5 (by rw [b6]; show (q : Int) = ((run (Sm (sgn h)) (n - F) F : Nat) : Int); rw [he])), fun y => absurd rfl y⟩
          · rw [sgn_eq, f2.sgn] at y
            rw [run_step (show Sm (sgn h) q from y)] at he
            refine ⟨fun w => absurd w (by decide), fun _ => ?_⟩
            rw [b6]
            exact ⟨by omega, ih (q + 1) _ (by omega) he (f2.st (by decide)) (by rw [st_nj (by decide)]; exact b4) (by rw [st_nj (by decide)]; exact b5) (by rw [st_at]; omega)⟩
      exact sml (n - F) F _ (by omega) rfl (fg1.st (by decide)) st_at (by rw [st_nj (by decide)]; exact a5) (by rw [st_nj (by decide)]; exact a6)
  · have eF : F = n := by omega
    have et : tk (sgn h) n p = ⟨0, F, F⟩ := by unfold tk; rw [hF, if_pos (by omega)]
    rw [et] at H
    exact H _ (fg1.st (by decide)) st_at (by rw [st_nj (by decide)]; exact a5) (by rw [st_nj (by decide)]; exact a6)

noncomputable def lwv (h : am_H) : am_V := by classical exact (if h 4 4 = 1 ∧ 0 ≤ widx (sgn h) (h 4 5).toNat (h 4 6).toNat then (4, widx (sgn h) (h 4 5).toNat (h 4 6).toNat) else (2, 0))
def LWP (P : Nat → List am_V → am_H → am_K → Prop) : Prop := ∀ (h : am_H) (K : am_K), 0 ≤ h 4 5 → h 4 5 ≤ h 4 6 → h 4 6 ≤ 400 → K (lwv h) h → P 17 [(2, 4)] h K
theorem kX1_languageWord (hP : LWP P) (h1 : 0 ≤ h 4 5) (h2 : h 4 5 ≤ h 4 6) (h3 : h 4 6 ≤ 400) (H : K (lwv h) h) : am_C true L xs P (d + 1) 17 [(2, 4)] h K := by
  show P 17 [(2, 4)] h K
  exact hP h K h1 h2 h3 H
end
