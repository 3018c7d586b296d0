/-! lett2: the class cuts a letter -/
noncomputable def ff (bad : Nat → Prop) : Nat → Nat → Int
  | 0, _ => -1
  | f + 1, k => by classical exact (if bad k then (k : Int) else ff bad f (k + 1))
noncomputable def fw (s : Nat → Int) (n : Nat) (bad : Nat → Prop) : Nat → Nat → Int
  | 0, _ => -1
  | f + 1, k => by classical exact (if n ≤ k then -1 else if bad k then (k : Int) else fw s n bad f (en s n k + 1))
def Lg (s : Nat → Int) (k : Nat) : Prop := Sm s k ∨ s k = 32 ∨ s k = 44 ∨ s k = 46
def Sy (s : Nat → Int) (n k : Nat) : Prop := s k = 32 ∧ (k = 0 ∨ k + 1 = n ∨ s (k - 1) = 32)
noncomputable def lb (s : Nat → Int) (n : Nat) (W : Int) (M : Nat) : Nat → Nat → Nat → Int → (Nat → Int) → Int × Nat × (Nat → Int)
  | 0, _, c, _, r => (-1, c, r)
  | f + 1, k, c, u, r => by classical exact (if n ≤ k then (-1, c, r) else if 0 < c ∧ u + 1 + ((en s n k : Int) - k) ≤ W then lb s n W M f (en s n k + 1) c (u + (1 + ((en s n k : Int) - k))) (up r (c - 1) (u + (1 + ((en s n k : Int) - k)))) else if c = M then ((k : Int), c, r) else lb s n W M f (en s n k + 1) (c + 1) ((en s n k : Int) - k) (up r c ((en s n k : Int) - k)))
noncomputable def spf (s : Nat → Int) (a : Nat) : Nat → Nat
  | 0 => a
  | i + 1 => by classical exact (if s (a + i) = 44 ∨ s (a + i) = 46 then spf s a i else a + i + 1)
theorem spf_bnd {s : Nat → Int} {a : Nat} : ∀ i, a ≤ spf s a i ∧ spf s a i ≤ a + i := by
  intro i
  induction i with
  | zero => simp [spf]
  | succ i ih => simp only [spf]; split <;> omega
noncomputable def Br (h : am_H) (s : Nat → Int) (nq n k : Nat) : Prop := Bd h s nq k (spf s k (en s n k - k))
noncomputable def lres (h : am_H) (s : Nat → Int) (n : Nat) (A W : Int) (M nq : Nat) : Int × Int := by classical exact (if ¬ ff (fun k => ¬ Lg s k) n 0 = -1 then (1, ff (fun k => ¬ Lg s k) n 0) else if A < n then (2, A) else if ¬ ff (Sy s n) n 0 = -1 then (3, ff (Sy s n) n 0) else if ¬ fw s n (fun k => W < (en s n k : Int) - k) n 0 = -1 then (4, fw s n (fun k => W < (en s n k : Int) - k) n 0) else if ¬ (lb s n W M n 0 0 0 (fun _ => 0)).1 = -1 then (5, (lb s n W M n 0 0 0 (fun _ => 0)).1) else if ¬ fw s n (Br h s nq n) n 0 = -1 then (6, fw s n (Br h s nq n) n 0) else (0, -1))
section
variable {L : Nat} {xs : Nat → Int} {P : Nat → List am_V → am_H → am_K → Prop} {d : Nat} {h : am_H} {K : am_K}
theorem kX3_strangeSign {n : Nat} (hn : n ≤ 400) (H : K (0, ff (fun k => ¬ Lg (sgn h) k) n 0) h) : am_C true L xs P (d + 3) 32 [(2, 17), (0, (n : Int))] h K := by
  refine eX3_strangeSign (bX3_strangeSign_0 ?_)
  have key : ∀ (f k : Nat), k + f = n → K (0, ff (fun k => ¬ Lg (sgn h) k) f k) h → tX3_strangeSign (h 0 0 + (0 : Nat)) L xs (am_C true L xs P (d + 2)) K 2 [(2, 17), (0, (n : Int)), (0, (k : Int))] [] h := by
    intro f
    induction f with
    | zero => intro k hk HK; exact bX3_strangeSign_2 ⟨fun _ => bX3_strangeSign_47 HK, fun z => by omega⟩
    | succ f ih =>
      intro k hk HK
      simp only [ff] at HK
      have yes : Lg (sgn h) k → tX3_strangeSign (h 0 0 + (0 : Nat)) L xs (am_C true L xs P (d + 2)) K 41 [(2, 17), (0, (n : Int)), (0, (k : Int))] [] h := by
        intro hl
        rw [if_neg (fun z => z hl)] at HK
        exact bX3_strangeSign_41 ⟨by omega, ih (k + 1) (by omega) HK⟩
      refine bX3_strangeSign_2 ⟨fun z => by omega, fun _ => kX8_isSmallLetter (d := d) (by omega) (fun gs => ?_) (fun gs => ?_)⟩
      · rw [sgn_eq] at gs
        refine ⟨fun z => absurd rfl z, fun _ => kX8_sign (d := d + 1) (by omega) ?_⟩
        rw [sgn_eq]
        dsimp only
        refine ⟨fun z => yes (Or.inr (Or.inl z)), fun z => kX3_isStop (d := d) (by omega) (fun z2 => ?_) (fun z2 => ?_)⟩
        · refine ⟨fun q => absurd rfl q, fun _ => ?_⟩
          have nl : ¬ Lg (sgn h) k := by
            rintro (q | q | q)
            · exact gs q
            · exact z q
            · exact z2 q
          rw [if_pos nl] at HK
          exact HK
        · exact ⟨fun _ => yes (Or.inr (Or.inr z2)), fun q => absurd (by decide) q⟩
      · rw [sgn_eq] at gs
        exact ⟨fun _ => yes (Or.inl gs), fun z => absurd (by decide) z⟩
  exact key n 0 (by omega) H
theorem kX3_strayBlank {n : Nat} (hn : n ≤ 400) (H : K (0, ff (Sy (sgn h) n) n 0) h) : am_C true L xs P (d + 2) 33 [(2, 17), (0, (n : Int))] h K := by
  refine eX3_strayBlank (bX3_strayBlank_0 ?_)
  have key : ∀ (f k : Nat) (v : am_V), k + f = n → K (0, ff (Sy (sgn h) n) f k) h → tX3_strayBlank (h 0 0 + (0 : Nat)) L xs (am_C true L xs P (d + 1)) K 2 [(2, 17), (0, (n : Int)), (0, (k : Int)), v] [] h := by
    intro f
    induction f with
    | zero => intro k v hk HK; exact bX3_strayBlank_2 ⟨fun _ => bX3_strayBlank_64 HK, fun z => by omega⟩
    | succ f ih =>
      intro k v hk HK
      simp only [ff] at HK
      have go : ∀ x : Int, ((x = 1 ∧ (k = 0 ∨ k + 1 = n)) ∨ (x = 0 ∧ ¬ (k = 0 ∨ k + 1 = n))) → tX3_strayBlank (h 0 0 + (0 : Nat)) L xs (am_C true L xs P (d + 1)) K 23 [(2, 17), (0, (n : Int)), (0, (k : Int)), v] [(0, x)] h := by
        intro x hx
        have no : ¬ Sy (sgn h) n k → tX3_strayBlank (h 0 0 + (0 : Nat)) L xs (am_C true L xs P (d + 1)) K 58 [(2, 17), (0, (n : Int)), (0, (k : Int)), (0, x)] [] h := by
          intro q
          rw [if_neg q] at HK
          exact bX3_strayBlank_58 ⟨by omega, ih (k + 1) _ (by omega) HK⟩
        have yes : Sy (sgn h) n k → tX3_strayBlank (h 0 0 + (0 : Nat)) L xs (am_C true L xs P (d + 1)) K 56 [(2, 17), (0, (n : Int)), (0, (k : Int)), (0, x)] [] h := by
          intro q
          rw [if_pos q] at HK
          exact bX3_strayBlank_56 HK
        refine bX3_strayBlank_23 (kX8_sign (d := d) (by omega) ?_)
        rw [sgn_eq]
        dsimp only
        refine ⟨fun z => no (fun q => z q.1), fun z => ⟨fun z2 => yes ⟨Classical.not_not.mp z, ?_⟩, fun z2 => ?_⟩⟩
        · rcases hx with q | q
          · rcases q.2 with w | w
            · exact Or.inl w
            · exact Or.inr (Or.inl w)
          · omega
        · have k0 : ¬ (k = 0 ∨ k + 1 = n) := by
            rcases hx with q | q
            · omega
            · exact q.2
          refine ⟨⟨by omega, by omega⟩, ?_⟩
          rw [show (k : Int) - 1 = ((k - 1 : Nat) : Int) by omega]
          refine kX8_sign (d := d) (by omega) ?_
          rw [sgn_eq]
          dsimp only
          refine ⟨fun z3 => no (fun q => ?_), fun z3 => yes ⟨Classical.not_not.mp z, Or.inr (Or.inr (Classical.not_not.mp z3))⟩⟩
          rcases q.2 with w | w | w
          · exact k0 (Or.inl w)
          · exact k0 (Or.inr w)
          · exact z3 w
      refine bX3_strayBlank_2 ⟨fun z => by omega, fun _ => ⟨fun z => bX3_strayBlank_18 (go 1 (Or.inl ⟨rfl, by omega⟩)), fun z => ⟨⟨by omega, by omega⟩, fun z2 => bX3_strayBlank_22 (go 0 (Or.inr ⟨rfl, by omega⟩)), fun z2 => bX3_strayBlank_18 (go 1 (Or.inl ⟨rfl, by omega⟩))⟩⟩⟩
  exact key n 0 _ (by omega) H
theorem kX3_longWord {n : Nat} {W : Int} (hn : n ≤ 400) (H : K (0, fw (sgn h) n (fun k => W < (en (sgn h) n k : Int) - k) n 0) h) : am_C true L xs P (d + 3) 34 [(2, 17), (0, (n : Int)), (0, W)] h K := by
  refine eX3_longWord (bX3_longWord_0 ?_)
  have key : ∀ (f k : Nat), n ≤ k + f → k ≤ n + 1 → K (0, fw (sgn h) n (fun k => W < (en (sgn h) n k : Int) - k) f k) h → tX3_longWord (h 0 0 + (0 : Nat)) L xs (am_C true L xs P (d + 2)) K 2 [(2, 17), (0, (n : Int)), (0, W), (0, (k : Int))] [] h := by
    intro f
    induction f with
    | zero => intro k hk _ HK; exact bX3_longWord_2 ⟨fun _ => bX3_longWord_33 HK, fun z => by omega⟩
    | succ f ih =>
      intro k hk hk2 HK
      simp only [fw] at HK
      by_cases e : n ≤ k
      · rw [if_pos e] at HK
        exact bX3_longWord_2 ⟨fun _ => bX3_longWord_33 HK, fun z => by omega⟩
      · rw [if_neg e] at HK
        have eb := en_bnd (s := sgn h) (n := n) (p := k) (by omega)
        refine bX3_longWord_2 ⟨fun z => by omega, fun _ => kX3_wordEnd (d := d) (by omega) hn ⟨⟨by dsimp only; omega, by dsimp only; omega⟩, fun z => bX3_longWord_21 (kX3_wordEnd (d := d) (by omega) hn ?_), fun z => ?_⟩⟩
        · dsimp only at z
          rw [if_neg (by omega)] at HK
          refine ⟨⟨by dsimp only; omega, by dsimp only; omega⟩, ?_⟩
          have := ih (en (sgn h) n k + 1) (by omega) (by omega) HK
          rw [show ((en (sgn h) n k + 1 : Nat) : Int) = (en (sgn h) n k : Int) + 1 by omega] at this
          exact this
        · dsimp only at z
          rw [if_pos (by omega)] at HK
          exact HK
  exact key n 0 (by omega) (by omega) H
theorem kX3_lineBeyond {n M : Nat} {W : Int} (hn : n ≤ 400) (hW : 0 ≤ W ∧ W ≤ 30) (hM : 1 ≤ M ∧ M ≤ 6) (H : ∀ g, Fr [17, 19] h g → (∀ j, ¬ j = 4 → g 17 j = h 17 j) → (g 17 4 = ((lb (sgn h) n W M n 0 0 0 (fun _ => 0)).2.1 : Nat)) → (lb (sgn h) n W M n 0 0 0 (fun _ => 0)).2.1 ≤ 6 → (∀ k, k < (lb (sgn h) n W M n 0 0 0 (fun _ => 0)).2.1 → g 19 k = (lb (sgn h) n W M n 0 0 0 (fun _ => 0)).2.2 k) → K (0, (lb (sgn h) n W M n 0 0 0 (fun _ => 0)).1) g) : am_C true L xs P (d + 3) 35 [(2, 17), (0, (n : Int)), (0, W), (0, (M : Int))] h K := by
  refine eX3_lineBeyond (bX3_lineBeyond_0 ?_)
  have key : ∀ (f k c : Nat) (u : Int) (r : Nat → Int) (v : am_V) (g : am_H), n ≤ k + f → k ≤ n + 1 → c ≤ M → 0 ≤ u ∧ u ≤ 400 → Fr [17, 19] h g → (∀ j, ¬ j = 4 → g 17 j = h 17 j) → g 17 4 = (c : Int) → (∀ j, j < c → g 19 j = r j) → (∀ g, Fr [17, 19] h g → (∀ j, ¬ j = 4 → g 17 j = h 17 j) → (g 17 4 = ((lb (sgn h) n W M f k c u r).2.1 : Nat)) → (lb (sgn h) n W M f k c u r).2.1 ≤ 6 → (∀ j, j < (lb (sgn h) n W M f k c u r).2.1 → g 19 j = (lb (sgn h) n W M f k c u r).2.2 j) → K (0, (lb (sgn h) n W M f k c u r).1) g) → tX3_lineBeyond (h 0 0 + (0 : Nat)) L xs (am_C true L xs P (d + 2)) K 11 [(2, 17), (0, (n : Int)), (0, W), (0, (M : Int)), (0, u), (0, (k : Int)), v] [] g := by
    intro f
    induction f with
    | zero =>
      intro k c u r v g hk hk2 hc hu fr f17 g4 rw' HK
      exact bX3_lineBeyond_11 ⟨fun _ => bX3_lineBeyond_120 (HK g fr f17 g4 (by simp only [lb]; omega) rw'), fun z => by omega⟩
    | succ f ih =>
      intro k c u r v g hk hk2 hc hu fr f17 g4 rw' HK
      by_cases e : n ≤ k
      · have el : lb (sgn h) n W M (f + 1) k c u r = (-1, c, r) := by simp only [lb]; rw [if_pos e]
        rw [el] at HK
        exact bX3_lineBeyond_11 ⟨fun _ => bX3_lineBeyond_120 (HK g fr f17 g4 (by dsimp only; omega) rw'), fun z => by omega⟩
      · have es : sgn g = sgn h := by funext j; unfold sgn; rw [fr 3 (by decide)]
        have eb := en_bnd (s := sgn h) (n := n) (p := k) (by omega)
        have we : ∀ g' : am_H, Fr [17, 19] h g' → en (sgn g') n k = en (sgn h) n k := fun g' f' => by
          have : sgn g' = sgn h := by funext j; unfold sgn; rw [f' 3 (by decide)]
          rw [this]
        -- write the line and go on
        have nxt : ∀ (c' : Nat) (u' : Int) (g' : am_H) (x6 : Int), 1 ≤ c' → c' ≤ M → 0 ≤ u' ∧ u' ≤ 400 → Fr [17, 19] h g' → (∀ j, ¬ j = 4 → g' 17 j = h 17 j) → g' 17 4 = (c' : Int) → (∀ j, j < c' → ¬ j = c' - 1 → g' 19 j = r j) → lb (sgn h) n W M (f + 1) k c u r = lb (sgn h) n W M f (en (sgn h) n k + 1) c' u' (up r (c' - 1) u') → tX3_lineBeyond (h 0 0 + (0 : Nat)) L xs (am_C true L xs P (d + 2)) K 93 [(2, 17), (0, (n : Int)), (0, W), (0, (M : Int)), (0, u'), (0, (k : Int)), (0, x6)] [] g' := by
          intro c' u' g' x6 h1 h2 hu' fr' f17' g4' old el
          refine bX3_lineBeyond_93 ?_
          rw [g4', show Int.toNat ((c' : Int) - 1) = c' - 1 by omega]
          have fr2 : Fr [17, 19] h (am_st g' 19 (c' - 1) u') := fr'.st (by decide)
          refine ⟨⟨by omega, by omega⟩, ⟨by omega, by omega⟩, kX3_wordEnd (d := d) (by omega) hn ?_⟩
          rw [we _ fr2]
          refine ⟨⟨by dsimp only; omega, by dsimp only; omega⟩, ?_⟩
          rw [el] at HK
          have := ih (en (sgn h) n k + 1) c' u' (up r (c' - 1) u') (0, x6) (am_st g' 19 (c' - 1) u') (by omega) (by omega) h2 hu' fr2 (fun j hj => by rw [st_ne (by decide)]; exact f17' j hj) (by rw [st_ne (by decide)]; exact g4') (fun j hj => by
            by_cases ej : j = c' - 1
            · rw [ej, st_at, up_at]
            · rw [st_nj ej, up_ne ej]; exact old j hj ej) HK
          rw [show ((en (sgn h) n k + 1 : Nat) : Int) = (en (sgn h) n k : Int) + 1 by omega] at this
          exact this
        have b59 : ∀ g' : am_H, g' = g → ¬ (0 < c ∧ u + 1 + ((en (sgn h) n k : Int) - k) ≤ W) → tX3_lineBeyond (h 0 0 + (0 : Nat)) L xs (am_C true L xs P (d + 2)) K 59 [(2, 17), (0, (n : Int)), (0, W), (0, (M : Int)), (0, u), (0, (k : Int)), (0, (en (sgn h) n k : Int) - k)] [] g' := by
          intro g' eg hno
          subst eg
          have stop : c = M → tX3_lineBeyond (h 0 0 + (0 : Nat)) L xs (am_C true L xs P (d + 2)) K 76 [(2, 17), (0, (n : Int)), (0, W), (0, (M : Int)), (0, u), (0, (k : Int)), (0, (en (sgn h) n k : Int) - k)] [] g' := by
            intro hcM
            have el : lb (sgn h) n W M (f + 1) k c u r = ((k : Int), c, r) := by simp only [lb]; rw [if_neg e, if_neg hno, if_pos hcM]
            rw [el] at HK
            exact bX3_lineBeyond_76 (HK g' fr f17 g4 (by dsimp only; omega) rw')
          refine bX3_lineBeyond_59 ?_
          rw [g4]
          refine ⟨fun z => stop (by omega), fun z => ⟨fun z2 => bX3_lineBeyond_79 ?_, fun z2 => stop (by omega)⟩⟩
          rw [g4]
          refine ⟨⟨by omega, by omega⟩, ?_⟩
          refine nxt (c + 1) _ (am_st g' 17 4 ((c : Int) + 1)) _ (by omega) (by omega) (by omega) (fr.st (by decide)) (fun j hj => by rw [st_nj hj]; exact f17 j hj) (by rw [st_at]; omega) (fun j hj hj2 => by rw [st_ne (by decide)]; exact rw' j (by omega)) ?_
          simp only [lb]
          rw [if_neg e, if_neg hno, if_neg (by omega)]
          rfl
        refine bX3_lineBeyond_11 ⟨fun z => by omega, fun _ => kX3_wordEnd (d := d) (by omega) hn ?_⟩
        rw [es]
        dsimp only
        rw [g4]
        refine ⟨⟨by omega, by omega⟩, fun z => b59 g rfl (by omega), fun z => ⟨⟨by omega, by omega⟩, ⟨by omega, by omega⟩, fun z2 => b59 g rfl (by omega), fun z2 => ⟨⟨by omega, by omega⟩, ⟨by omega, by omega⟩, ?_⟩⟩⟩
        refine nxt c _ g _ (by omega) hc (by omega) fr f17 g4 (fun j hj _ => rw' j hj) ?_
        simp only [lb]
        rw [if_neg e, if_pos ⟨by omega, by omega⟩]
  exact key n 0 0 0 (fun _ => 0) _ (am_st h 17 4 0) (by omega) (by omega) (by omega) (by omega) (Fr.rf.st (by decide)) (fun j hj => st_nj hj) st_at (fun j hj => by omega) H
end
