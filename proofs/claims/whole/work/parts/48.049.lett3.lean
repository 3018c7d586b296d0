/-! lett3: the class's cut; written by q_lett3.py -/
/-- what a cut leaves in the class -/
def LZ (h g : am_H) (s : Nat → Int) (n : Nat) (A W : Int) (M nq : Nat) : Prop := (g 17 5 = (lres h s n A W M nq).1) ∧ (g 17 6 = (lres h s n A W M nq).2) ∧ ((lres h s n A W M nq).1 = 0 → g 17 3 = ((lb s n W M n 0 0 0 (fun _ => 0)).2.1 : Nat) ∧ (lb s n W M n 0 0 0 (fun _ => 0)).2.1 ≤ 6 ∧ ∀ k, k < (lb s n W M n 0 0 0 (fun _ => 0)).2.1 → g 18 k = (lb s n W M n 0 0 0 (fun _ => 0)).2.2 k) ∧ (¬ (lres h s n A W M nq).1 = 0 → g 17 3 = h 17 3 ∧ g 18 = h 18)
theorem LZ.f {h g : am_H} {s : Nat → Int} {n : Nat} {A W : Int} {M nq : Nat} (s_ : LZ h g s n A W M nq) : g 17 5 = (lres h s n A W M nq).1 := s_.1
theorem LZ.p {h g : am_H} {s : Nat → Int} {n : Nat} {A W : Int} {M nq : Nat} (s_ : LZ h g s n A W M nq) : g 17 6 = (lres h s n A W M nq).2 := s_.2.1
theorem LZ.ok {h g : am_H} {s : Nat → Int} {n : Nat} {A W : Int} {M nq : Nat} (s_ : LZ h g s n A W M nq) : (lres h s n A W M nq).1 = 0 → g 17 3 = ((lb s n W M n 0 0 0 (fun _ => 0)).2.1 : Nat) ∧ (lb s n W M n 0 0 0 (fun _ => 0)).2.1 ≤ 6 ∧ ∀ k, k < (lb s n W M n 0 0 0 (fun _ => 0)).2.1 → g 18 k = (lb s n W M n 0 0 0 (fun _ => 0)).2.2 k := s_.2.2.1
theorem LZ.no {h g : am_H} {s : Nat → Int} {n : Nat} {A W : Int} {M nq : Nat} (s_ : LZ h g s n A W M nq) : ¬ (lres h s n A W M nq).1 = 0 → g 17 3 = h 17 3 ∧ g 18 = h 18 := s_.2.2.2
section
variable {L : Nat} {xs : Nat → Int} {P : Nat → List am_V → am_H → am_K → Prop} {d : Nat} {h : am_H} {K : am_K}
theorem kX3_barredWord_0 {n nq : Nat} (hn : n ≤ 400) (h6 : h 5 6 = nq) (hq8 : nq ≤ 8) (bl : ∀ k, k < nq → BL h 5 0 0 k) (H : K (0, fw (sgn h) n (Br h (sgn h) nq n) n 0) h) : am_C true L xs P (d + 4) 36 [(2, 17), (0, (n : Int)), (2, 5)] h K := by
  refine eX3_barredWord_0 (bX3_barredWord_0_0 ?_)
  have key : ∀ (f k : Nat) (v : am_V), n ≤ k + f → k ≤ n + 1 → K (0, fw (sgn h) n (Br h (sgn h) nq n) f k) h → tX3_barredWord (h 0 0 + (0 : Nat)) L xs (am_C true L xs P (d + 3)) K 2 [(2, 17), (0, (n : Int)), (2, 5), (0, (k : Int)), v] [] h := by
    intro f
    induction f with
    | zero => intro k v hk _ HK; exact bX3_barredWord_2_0 ⟨fun _ => bX3_barredWord_69_0 HK, fun z => by omega⟩
    | succ f ih =>
      intro k v hk hk2 HK
      simp only [fw] at HK
      by_cases e : n ≤ k
      · rw [if_pos e] at HK
        exact bX3_barredWord_2_0 ⟨fun _ => bX3_barredWord_69_0 HK, fun z => by omega⟩
      · rw [if_neg e] at HK
        have eb := en_bnd (s := sgn h) (n := n) (p := k) (by omega)
        have sb := spf_bnd (s := sgn h) (a := k) (en (sgn h) n k - k)
        refine bX3_barredWord_2_0 ⟨fun z => by omega, fun _ => kX3_wordEnd (d := d + 1) (by omega) hn ?_⟩
        dsimp only
        -- strip the stops
        have strip : ∀ i, k + i ≤ n → spf (sgn h) k (en (sgn h) n k - k) = spf (sgn h) k i → tX3_barredWord (h 0 0 + (0 : Nat)) L xs (am_C true L xs P (d + 3)) K 38 [(2, 17), (0, (n : Int)), (2, 5), (0, (k : Int)), (0, ((spf (sgn h) k (en (sgn h) n k - k) : Nat) : Int))] [] h → tX3_barredWord (h 0 0 + (0 : Nat)) L xs (am_C true L xs P (d + 3)) K 15 [(2, 17), (0, (n : Int)), (2, 5), (0, (k : Int)), (0, ((k + i : Nat) : Int))] [] h := by
          intro i
          induction i with
          | zero =>
            intro _ hi G
            rw [hi] at G
            exact bX3_barredWord_15_0 ⟨fun _ => G, fun z => by omega⟩
          | succ i ihi =>
            intro hki hi G
            simp only [spf] at hi
            refine bX3_barredWord_15_0 ⟨fun z => by omega, fun _ => ⟨⟨by omega, by omega⟩, ?_⟩⟩
            rw [show ((k + (i + 1) : Nat) : Int) - 1 = ((k + i : Nat) : Int) by omega]
            refine kX3_isStop (d := d + 1) (by omega) (fun z => ?_) (fun z => ?_)
            · rw [if_neg z] at hi
              refine ⟨fun _ => ?_, fun q => absurd rfl q⟩
              rw [hi] at G
              exact G
            · rw [if_pos z] at hi
              refine ⟨fun q => absurd q (by decide), fun _ => ⟨⟨by omega, by omega⟩, ?_⟩⟩
              rw [show ((k + (i + 1) : Nat) : Int) + (-1) = ((k + i : Nat) : Int) by omega]
              exact ihi (by omega) hi G
        have start := strip (en (sgn h) n k - k) (by omega) rfl
        rw [show k + (en (sgn h) n k - k) = en (sgn h) n k by omega] at start
        refine start (bX3_barredWord_38_0 (kX8_wordCode (d := d) (by omega) (by omega) (kX0_bars (d := d + 2) (c := 5) (by decide) h6 hq8 (fun z => ?_) (fun z => ?_))))
        · have nb : ¬ Br h (sgn h) nq n k := fun q => z ((Bd_code bl (by omega)).mpr q)
          rw [if_neg nb] at HK
          refine ⟨fun _ => bX3_barredWord_57_0 (kX3_wordEnd (d := d + 1) (by omega) hn ⟨⟨by dsimp only; omega, by dsimp only; omega⟩, ?_⟩), fun q => absurd rfl q⟩
          have := ih (en (sgn h) n k + 1) (0, ((spf (sgn h) k (en (sgn h) n k - k) : Nat) : Int)) (by omega) (by omega) HK
          rw [show ((en (sgn h) n k + 1 : Nat) : Int) = (en (sgn h) n k : Int) + 1 by omega] at this
          exact this
        · have yb : Br h (sgn h) nq n k := (Bd_code bl (by omega)).mp z
          rw [if_pos yb] at HK
          exact ⟨fun q => absurd q (by decide), fun _ => HK⟩
  exact key n 0 _ (by omega) (by omega) H
theorem kX3_cut_0 {n nq M : Nat} {A W : Int} (hn : n ≤ 400) (hA : h 6 0 = A) (hMv : h 6 1 = M) (hWv : h 6 2 = W) (hA0 : 0 ≤ A) (hW : 0 ≤ W ∧ W ≤ 30) (hM : 1 ≤ M ∧ M ≤ 6) (h6 : h 5 6 = nq) (hq8 : nq ≤ 8) (bl : ∀ k, k < nq → BL h 5 0 0 k) (H : ∀ g, Fr [17, 18, 19] h g → LZ h g (sgn h) n A W M nq → K (0, if (lres h (sgn h) n A W M nq).1 = 0 then (((lb (sgn h) n W M n 0 0 0 (fun _ => 0)).2.1 : Nat) : Int) else -1) g) : am_C true L xs P (d + 6) 30 [(2, 17), (0, (n : Int)), (2, 5)] h K := by
  refine eX3_cut_0 (bX3_cut_0_0 ?_)
  -- a fault is found
  have bad : ∀ (g : am_H) (w pl : Int), Fr [17, 19] h g → (∀ j, ¬ j = 4 → g 17 j = h 17 j) → lres h (sgn h) n A W M nq = (w, pl) → ¬ w = 0 → K (0, -1) (am_st (am_st g 17 5 w) 17 6 pl) := by
    intro g w pl fr f17 hl hw
    have := H (am_st (am_st g 17 5 w) 17 6 pl) ((fr.mono (by decide)).st (by decide) |>.st (by decide)) ?_
    · rw [hl, if_neg hw] at this; exact this
    · refine ⟨by rw [hl, st_nj (by decide), st_at], by rw [hl, st_at], fun z => by rw [hl] at z; exact absurd z hw, fun _ => ⟨by rw [st_nj (by decide), st_nj (by decide)]; exact f17 3 (by decide), by rw [st_ne (by decide), st_ne (by decide)]; exact fr 18 (by decide)⟩⟩
  have go : ∀ (i : Int) (v : am_V) (g : am_H) (K2 : Int → am_H → Prop), True := fun _ _ _ _ => trivial
  have m1 : ∀ (x v : Int) (g : am_H), tX3_cut (h 0 0 + (0 : Nat)) L xs (am_C true L xs P (d + 5)) K 2 [(2, 17), (0, (n : Int)), (2, 5), (0, x + 1), (0, v)] [] g → am_inI (x + 1) → tX3_cut (h 0 0 + (0 : Nat)) L xs (am_C true L xs P (d + 5)) K 36 [(2, 17), (0, (n : Int)), (2, 5), (0, x), (0, v)] [] g := fun x v g G I => bX3_cut_36_0 ⟨I, G⟩
  -- 1
  refine bX3_cut_2_0 ⟨fun z => absurd z (by decide), fun _ => eX3_placeOf_0 (bX3_placeOf_0_0 ⟨fun z => by omega, fun _ => bX3_placeOf_36_0 (kX3_strangeSign (d := d + 1) hn ?_), fun z => absurd z (by decide), fun z => absurd z (by decide), fun z => absurd z (by decide), fun z => absurd z (by decide), trivial⟩)⟩
  dsimp only
  refine ⟨fun z1 => m1 _ _ _ ?_ (by decide), fun z1 => bad h 1 _ Fr.rf (fun _ _ => rfl) (by unfold lres; rw [if_pos z1]) (by decide)⟩
  -- 2
  refine bX3_cut_2_0 ⟨fun z => absurd z (by decide), fun _ => eX3_placeOf_0 (bX3_placeOf_0_0 ⟨fun z => by omega, fun z => absurd z (by decide), fun _ => bX3_placeOf_42_0 ⟨by decide, ?_⟩, fun z => absurd z (by decide), fun z => absurd z (by decide), fun z => absurd z (by decide), trivial⟩)⟩
  show ((n : Int) ≤ h 6 0 → _) ∧ (¬ (n : Int) ≤ h 6 0 → _ ∧ tX3_placeOf _ _ _ _ _ 62 _ [(0, h 6 0)] h)
  rw [hA]
  refine ⟨fun z2 => bX3_placeOf_61_0 (bX3_placeOf_62_0 ?_), fun z2 => ⟨by decide, bX3_placeOf_62_0 ?_⟩⟩
  case' refine_2 => exact ⟨fun q => by dsimp only at q; omega, fun _ => bad h 2 A Fr.rf (fun _ _ => rfl) (by unfold lres; rw [if_neg (fun q => q z1), if_pos (by omega)]) (by decide)⟩
  refine ⟨fun _ => m1 _ _ _ ?_ (by decide), fun q => absurd rfl q⟩
  -- 3
  refine bX3_cut_2_0 ⟨fun z => absurd z (by decide), fun _ => eX3_placeOf_0 (bX3_placeOf_0_0 ⟨fun z => by omega, fun z => absurd z (by decide), fun z => absurd z (by decide), fun _ => bX3_placeOf_63_0 (kX3_strayBlank (d := d + 2) hn ?_), fun z => absurd z (by decide), fun z => absurd z (by decide), trivial⟩)⟩
  dsimp only
  refine ⟨fun z3 => m1 _ _ _ ?_ (by decide), fun z3 => bad h 3 _ Fr.rf (fun _ _ => rfl) (by unfold lres; rw [if_neg (fun q => q z1), if_neg (by omega), if_pos z3]) (by decide)⟩
  -- 4
  refine bX3_cut_2_0 ⟨fun z => absurd z (by decide), fun _ => eX3_placeOf_0 (bX3_placeOf_0_0 ⟨fun z => by omega, fun z => absurd z (by decide), fun z => absurd z (by decide), fun z => absurd z (by decide), fun _ => bX3_placeOf_69_0 ⟨by decide, ?_⟩, fun z => absurd z (by decide), trivial⟩)⟩
  show am_C true L xs P (d + 4) 34 [(2, 17), (0, (n : Int)), (0, h 6 2)] h _
  rw [hWv]
  refine kX3_longWord (d := d + 1) hn ?_
  dsimp only
  refine ⟨fun z4 => m1 _ _ _ ?_ (by decide), fun z4 => bad h 4 _ Fr.rf (fun _ _ => rfl) (by unfold lres; rw [if_neg (fun q => q z1), if_neg (by omega), if_neg (fun q => q z3), if_pos z4]) (by decide)⟩
  -- 5
  refine bX3_cut_2_0 ⟨fun z => absurd z (by decide), fun _ => eX3_placeOf_0 (bX3_placeOf_0_0 ⟨fun z => by omega, fun z => absurd z (by decide), fun z => absurd z (by decide), fun z => absurd z (by decide), fun z => absurd z (by decide), fun _ => bX3_placeOf_81_0 ⟨by decide, by decide, ?_⟩, trivial⟩)⟩
  show am_C true L xs P (d + 4) 35 [(2, 17), (0, (n : Int)), (0, h 6 2), (0, h 6 1)] h _
  rw [hWv, hMv]
  refine kX3_lineBeyond (d := d + 1) hn hW hM (fun g fr f17 g4 l6 rws => ?_)
  dsimp only
  refine ⟨fun z5 => m1 _ _ _ ?_ (by decide), fun z5 => bad g 5 _ fr f17 (by unfold lres; rw [if_neg (fun q => q z1), if_neg (by omega), if_neg (fun q => q z3), if_neg (fun q => q z4), if_pos z5]) (by decide)⟩
  -- 6
  have es : sgn g = sgn h := by funext j; unfold sgn; rw [fr 3 (by decide)]
  have bl' : ∀ k, k < nq → BL g 5 0 0 k := by
    intro k hk
    obtain ⟨y1, y2, y3⟩ := bl k hk
    have e5 : g 75 = h 75 := fr 75 (by decide)
    have e6 : g 76 = h 76 := fr 76 (by decide)
    have e10 : g (5 + 5) = h (5 + 5) := fr _ (by decide)
    refine ⟨?_, ?_, ?_⟩ <;> first | assumption | (simp only [e5, e6, e10]; assumption)
  have eBr : Br g (sgn g) nq n = Br h (sgn h) nq n := by
    funext k; unfold Br Bd; rw [es, fr 75 (by decide), fr 76 (by decide)]
  refine bX3_cut_2_0 ⟨fun z => absurd z (by decide), fun _ => eX3_placeOf_0 (bX3_placeOf_0_0 ⟨fun _ => bX3_placeOf_99_0 (kX3_barredWord_0 (d := d) hn (by rw [fr 5 (by decide)]; exact h6) hq8 bl' ?_), fun z => absurd z (by decide), fun z => absurd z (by decide), fun z => absurd z (by decide), fun z => absurd z (by decide), fun z => absurd z (by decide), trivial⟩)⟩
  rw [eBr, es]
  dsimp only
  refine ⟨fun z6 => m1 _ _ _ ?_ (by decide), fun z6 => bad g 6 _ fr f17 (by unfold lres; rw [if_neg (fun q => q z1), if_neg (by omega), if_neg (fun q => q z3), if_neg (fun q => q z4), if_neg (fun q => q z5), if_pos z6]) (by decide)⟩
  have hl : lres h (sgn h) n A W M nq = (0, -1) := by unfold lres; rw [if_neg (fun q => q z1), if_neg (by omega), if_neg (fun q => q z3), if_neg (fun q => q z4), if_neg (fun q => q z5), if_neg (fun q => q z6)]
  refine bX3_cut_2_0 ⟨fun _ => bX3_cut_42_0 ?_, fun z => absurd (by decide) z⟩
  rw [g4]
  generalize hc : (lb (sgn h) n W M n 0 0 0 (fun _ => 0)).2.1 = c at *
  have fr2 : Fr [17, 18, 19] h (am_st (am_st (am_st g 17 5 0) 17 6 (-1)) 17 3 (c : Int)) := (((fr.mono (by decide)).st (by decide)).st (by decide)).st (by decide)
  refine upto (σ := am_H) (N := c) (I := fun i g' => Fr [18] (am_st (am_st (am_st g 17 5 0) 17 6 (-1)) 17 3 (c : Int)) g' ∧ ∀ k, k < i → g' 18 k = g 19 k) (G := fun i g' => tX3_cut (h 0 0 + (0 : Nat)) L xs (am_C true L xs P (d + 5)) K 62 [(2, 17), (0, (n : Int)), (2, 5), (0, (i : Int)), (0, fw (sgn h) n (Br h (sgn h) nq n) n 0)] [] g') ?_ ?_ c 0 _ (by omega) ⟨Fr.rf, fun k hk => by omega⟩
  · intro i g' hi ⟨q1, q2⟩ ih
    have e3 : g' 17 3 = (c : Int) := by rw [q1 17 (by decide), st_at]
    have e19 : g' 19 = g 19 := by rw [q1 19 (by decide), st_ne (by decide), st_ne (by decide), st_ne (by decide)]
    refine bX3_cut_62_0 ⟨fun z => by omega, fun _ => ⟨by omega, by omega, by omega, ih _ ⟨q1.st (by decide), fun k hk => ?_⟩⟩⟩
    rw [Int.toNat_natCast, st_ap, e19]
    split
    · rename_i ek; rw [ek]
    · exact q2 k (by omega)
  · intro g' ⟨q1, q2⟩
    have e3 : g' 17 3 = (c : Int) := by rw [q1 17 (by decide), st_at]
    refine bX3_cut_62_0 ⟨fun _ => bX3_cut_88_0 ?_, fun z => by omega⟩
    rw [e3]
    have := H g' (fr2.tr (q1.mono (by decide))) ?_
    · rw [hl, if_pos rfl] at this; exact this
    · refine ⟨by rw [hl, q1 17 (by decide), st_nj (by decide), st_nj (by decide), st_at], by rw [hl, q1 17 (by decide), st_nj (by decide), st_at], fun _ => ⟨by rw [hc]; exact e3, by rw [hc]; exact l6, fun k hk => ?_⟩, fun z => by rw [hl] at z; exact absurd rfl z⟩
      rw [hc] at hk
      rw [q2 k hk]; exact rws k hk
theorem kX3_barredWord_1 {n nq : Nat} (hn : n ≤ 400) (h6 : h 11 6 = nq) (hq8 : nq ≤ 8) (bl : ∀ k, k < nq → BL h 11 0 0 k) (H : K (0, fw (sgn h) n (Br h (sgn h) nq n) n 0) h) : am_C true L xs P (d + 4) 36 [(2, 17), (0, (n : Int)), (2, 11)] h K := by
  refine eX3_barredWord_1 (bX3_barredWord_0_1 ?_)
  have key : ∀ (f k : Nat) (v : am_V), n ≤ k + f → k ≤ n + 1 → K (0, fw (sgn h) n (Br h (sgn h) nq n) f k) h → tX3_barredWord (h 0 0 + (0 : Nat)) L xs (am_C true L xs P (d + 3)) K 2 [(2, 17), (0, (n : Int)), (2, 11), (0, (k : Int)), v] [] h := by
    intro f
    induction f with
    | zero => intro k v hk _ HK; exact bX3_barredWord_2_1 ⟨fun _ => bX3_barredWord_69_1 HK, fun z => by omega⟩
    | succ f ih =>
      intro k v hk hk2 HK
      simp only [fw] at HK
      by_cases e : n ≤ k
      · rw [if_pos e] at HK
        exact bX3_barredWord_2_1 ⟨fun _ => bX3_barredWord_69_1 HK, fun z => by omega⟩
      · rw [if_neg e] at HK
        have eb := en_bnd (s := sgn h) (n := n) (p := k) (by omega)
        have sb := spf_bnd (s := sgn h) (a := k) (en (sgn h) n k - k)
        refine bX3_barredWord_2_1 ⟨fun z => by omega, fun _ => kX3_wordEnd (d := d + 1) (by omega) hn ?_⟩
        dsimp only
        -- strip the stops
        have strip : ∀ i, k + i ≤ n → spf (sgn h) k (en (sgn h) n k - k) = spf (sgn h) k i → tX3_barredWord (h 0 0 + (0 : Nat)) L xs (am_C true L xs P (d + 3)) K 38 [(2, 17), (0, (n : Int)), (2, 11), (0, (k : Int)), (0, ((spf (sgn h) k (en (sgn h) n k - k) : Nat) : Int))] [] h → tX3_barredWord (h 0 0 + (0 : Nat)) L xs (am_C true L xs P (d + 3)) K 15 [(2, 17), (0, (n : Int)), (2, 11), (0, (k : Int)), (0, ((k + i : Nat) : Int))] [] h := by
          intro i
          induction i with
          | zero =>
            intro _ hi G
            rw [hi] at G
            exact bX3_barredWord_15_1 ⟨fun _ => G, fun z => by omega⟩
          | succ i ihi =>
            intro hki hi G
            simp only [spf] at hi
            refine bX3_barredWord_15_1 ⟨fun z => by omega, fun _ => ⟨⟨by omega, by omega⟩, ?_⟩⟩
            rw [show ((k + (i + 1) : Nat) : Int) - 1 = ((k + i : Nat) : Int) by omega]
            refine kX3_isStop (d := d + 1) (by omega) (fun z => ?_) (fun z => ?_)
            · rw [if_neg z] at hi
              refine ⟨fun _ => ?_, fun q => absurd rfl q⟩
              rw [hi] at G
              exact G
            · rw [if_pos z] at hi
              refine ⟨fun q => absurd q (by decide), fun _ => ⟨⟨by omega, by omega⟩, ?_⟩⟩
              rw [show ((k + (i + 1) : Nat) : Int) + (-1) = ((k + i : Nat) : Int) by omega]
              exact ihi (by omega) hi G
        have start := strip (en (sgn h) n k - k) (by omega) rfl
        rw [show k + (en (sgn h) n k - k) = en (sgn h) n k by omega] at start
        refine start (bX3_barredWord_38_1 (kX8_wordCode (d := d) (by omega) (by omega) (kX0_bars (d := d + 2) (c := 11) (by decide) h6 hq8 (fun z => ?_) (fun z => ?_))))
        · have nb : ¬ Br h (sgn h) nq n k := fun q => z ((Bd_code bl (by omega)).mpr q)
          rw [if_neg nb] at HK
          refine ⟨fun _ => bX3_barredWord_57_1 (kX3_wordEnd (d := d + 1) (by omega) hn ⟨⟨by dsimp only; omega, by dsimp only; omega⟩, ?_⟩), fun q => absurd rfl q⟩
          have := ih (en (sgn h) n k + 1) (0, ((spf (sgn h) k (en (sgn h) n k - k) : Nat) : Int)) (by omega) (by omega) HK
          rw [show ((en (sgn h) n k + 1 : Nat) : Int) = (en (sgn h) n k : Int) + 1 by omega] at this
          exact this
        · have yb : Br h (sgn h) nq n k := (Bd_code bl (by omega)).mp z
          rw [if_pos yb] at HK
          exact ⟨fun q => absurd q (by decide), fun _ => HK⟩
  exact key n 0 _ (by omega) (by omega) H
theorem kX3_cut_1 {n nq M : Nat} {A W : Int} (hn : n ≤ 400) (hA : h 12 0 = A) (hMv : h 12 1 = M) (hWv : h 12 2 = W) (hA0 : 0 ≤ A) (hW : 0 ≤ W ∧ W ≤ 30) (hM : 1 ≤ M ∧ M ≤ 6) (h6 : h 11 6 = nq) (hq8 : nq ≤ 8) (bl : ∀ k, k < nq → BL h 11 0 0 k) (H : ∀ g, Fr [17, 18, 19] h g → LZ h g (sgn h) n A W M nq → K (0, if (lres h (sgn h) n A W M nq).1 = 0 then (((lb (sgn h) n W M n 0 0 0 (fun _ => 0)).2.1 : Nat) : Int) else -1) g) : am_C true L xs P (d + 6) 30 [(2, 17), (0, (n : Int)), (2, 11)] h K := by
  refine eX3_cut_1 (bX3_cut_0_1 ?_)
  -- a fault is found
  have bad : ∀ (g : am_H) (w pl : Int), Fr [17, 19] h g → (∀ j, ¬ j = 4 → g 17 j = h 17 j) → lres h (sgn h) n A W M nq = (w, pl) → ¬ w = 0 → K (0, -1) (am_st (am_st g 17 5 w) 17 6 pl) := by
    intro g w pl fr f17 hl hw
    have := H (am_st (am_st g 17 5 w) 17 6 pl) ((fr.mono (by decide)).st (by decide) |>.st (by decide)) ?_
    · rw [hl, if_neg hw] at this; exact this
    · refine ⟨by rw [hl, st_nj (by decide), st_at], by rw [hl, st_at], fun z => by rw [hl] at z; exact absurd z hw, fun _ => ⟨by rw [st_nj (by decide), st_nj (by decide)]; exact f17 3 (by decide), by rw [st_ne (by decide), st_ne (by decide)]; exact fr 18 (by decide)⟩⟩
  have go : ∀ (i : Int) (v : am_V) (g : am_H) (K2 : Int → am_H → Prop), True := fun _ _ _ _ => trivial
  have m1 : ∀ (x v : Int) (g : am_H), tX3_cut (h 0 0 + (0 : Nat)) L xs (am_C true L xs P (d + 5)) K 2 [(2, 17), (0, (n : Int)), (2, 11), (0, x + 1), (0, v)] [] g → am_inI (x + 1) → tX3_cut (h 0 0 + (0 : Nat)) L xs (am_C true L xs P (d + 5)) K 36 [(2, 17), (0, (n : Int)), (2, 11), (0, x), (0, v)] [] g := fun x v g G I => bX3_cut_36_1 ⟨I, G⟩
  -- 1
  refine bX3_cut_2_1 ⟨fun z => absurd z (by decide), fun _ => eX3_placeOf_1 (bX3_placeOf_0_1 ⟨fun z => by omega, fun _ => bX3_placeOf_36_1 (kX3_strangeSign (d := d + 1) hn ?_), fun z => absurd z (by decide), fun z => absurd z (by decide), fun z => absurd z (by decide), fun z => absurd z (by decide), trivial⟩)⟩
  dsimp only
  refine ⟨fun z1 => m1 _ _ _ ?_ (by decide), fun z1 => bad h 1 _ Fr.rf (fun _ _ => rfl) (by unfold lres; rw [if_pos z1]) (by decide)⟩
  -- 2
  refine bX3_cut_2_1 ⟨fun z => absurd z (by decide), fun _ => eX3_placeOf_1 (bX3_placeOf_0_1 ⟨fun z => by omega, fun z => absurd z (by decide), fun _ => bX3_placeOf_42_1 ⟨by decide, ?_⟩, fun z => absurd z (by decide), fun z => absurd z (by decide), fun z => absurd z (by decide), trivial⟩)⟩
  show ((n : Int) ≤ h 12 0 → _) ∧ (¬ (n : Int) ≤ h 12 0 → _ ∧ tX3_placeOf _ _ _ _ _ 62 _ [(0, h 12 0)] h)
  rw [hA]
  refine ⟨fun z2 => bX3_placeOf_61_1 (bX3_placeOf_62_1 ?_), fun z2 => ⟨by decide, bX3_placeOf_62_1 ?_⟩⟩
  case' refine_2 => exact ⟨fun q => by dsimp only at q; omega, fun _ => bad h 2 A Fr.rf (fun _ _ => rfl) (by unfold lres; rw [if_neg (fun q => q z1), if_pos (by omega)]) (by decide)⟩
  refine ⟨fun _ => m1 _ _ _ ?_ (by decide), fun q => absurd rfl q⟩
  -- 3
  refine bX3_cut_2_1 ⟨fun z => absurd z (by decide), fun _ => eX3_placeOf_1 (bX3_placeOf_0_1 ⟨fun z => by omega, fun z => absurd z (by decide), fun z => absurd z (by decide), fun _ => bX3_placeOf_63_1 (kX3_strayBlank (d := d + 2) hn ?_), fun z => absurd z (by decide), fun z => absurd z (by decide), trivial⟩)⟩
  dsimp only
  refine ⟨fun z3 => m1 _ _ _ ?_ (by decide), fun z3 => bad h 3 _ Fr.rf (fun _ _ => rfl) (by unfold lres; rw [if_neg (fun q => q z1), if_neg (by omega), if_pos z3]) (by decide)⟩
  -- 4
  refine bX3_cut_2_1 ⟨fun z => absurd z (by decide), fun _ => eX3_placeOf_1 (bX3_placeOf_0_1 ⟨fun z => by omega, fun z => absurd z (by decide), fun z => absurd z (by decide), fun z => absurd z (by decide), fun _ => bX3_placeOf_69_1 ⟨by decide, ?_⟩, fun z => absurd z (by decide), trivial⟩)⟩
  show am_C true L xs P (d + 4) 34 [(2, 17), (0, (n : Int)), (0, h 12 2)] h _
  rw [hWv]
  refine kX3_longWord (d := d + 1) hn ?_
  dsimp only
  refine ⟨fun z4 => m1 _ _ _ ?_ (by decide), fun z4 => bad h 4 _ Fr.rf (fun _ _ => rfl) (by unfold lres; rw [if_neg (fun q => q z1), if_neg (by omega), if_neg (fun q => q z3), if_pos z4]) (by decide)⟩
  -- 5
  refine bX3_cut_2_1 ⟨fun z => absurd z (by decide), fun _ => eX3_placeOf_1 (bX3_placeOf_0_1 ⟨fun z => by omega, fun z => absurd z (by decide), fun z => absurd z (by decide), fun z => absurd z (by decide), fun z => absurd z (by decide), fun _ => bX3_placeOf_81_1 ⟨by decide, by decide, ?_⟩, trivial⟩)⟩
  show am_C true L xs P (d + 4) 35 [(2, 17), (0, (n : Int)), (0, h 12 2), (0, h 12 1)] h _
  rw [hWv, hMv]
  refine kX3_lineBeyond (d := d + 1) hn hW hM (fun g fr f17 g4 l6 rws => ?_)
  dsimp only
  refine ⟨fun z5 => m1 _ _ _ ?_ (by decide), fun z5 => bad g 5 _ fr f17 (by unfold lres; rw [if_neg (fun q => q z1), if_neg (by omega), if_neg (fun q => q z3), if_neg (fun q => q z4), if_pos z5]) (by decide)⟩
  -- 6
  have es : sgn g = sgn h := by funext j; unfold sgn; rw [fr 3 (by decide)]
  have bl' : ∀ k, k < nq → BL g 11 0 0 k := by
    intro k hk
    obtain ⟨y1, y2, y3⟩ := bl k hk
    have e5 : g 75 = h 75 := fr 75 (by decide)
    have e6 : g 76 = h 76 := fr 76 (by decide)
    have e10 : g (11 + 5) = h (11 + 5) := fr _ (by decide)
    refine ⟨?_, ?_, ?_⟩ <;> first | assumption | (simp only [e5, e6, e10]; assumption)
  have eBr : Br g (sgn g) nq n = Br h (sgn h) nq n := by
    funext k; unfold Br Bd; rw [es, fr 75 (by decide), fr 76 (by decide)]
  refine bX3_cut_2_1 ⟨fun z => absurd z (by decide), fun _ => eX3_placeOf_1 (bX3_placeOf_0_1 ⟨fun _ => bX3_placeOf_99_1 (kX3_barredWord_1 (d := d) hn (by rw [fr 11 (by decide)]; exact h6) hq8 bl' ?_), fun z => absurd z (by decide), fun z => absurd z (by decide), fun z => absurd z (by decide), fun z => absurd z (by decide), fun z => absurd z (by decide), trivial⟩)⟩
  rw [eBr, es]
  dsimp only
  refine ⟨fun z6 => m1 _ _ _ ?_ (by decide), fun z6 => bad g 6 _ fr f17 (by unfold lres; rw [if_neg (fun q => q z1), if_neg (by omega), if_neg (fun q => q z3), if_neg (fun q => q z4), if_neg (fun q => q z5), if_pos z6]) (by decide)⟩
  have hl : lres h (sgn h) n A W M nq = (0, -1) := by unfold lres; rw [if_neg (fun q => q z1), if_neg (by omega), if_neg (fun q => q z3), if_neg (fun q => q z4), if_neg (fun q => q z5), if_neg (fun q => q z6)]
  refine bX3_cut_2_1 ⟨fun _ => bX3_cut_42_1 ?_, fun z => absurd (by decide) z⟩
  rw [g4]
  generalize hc : (lb (sgn h) n W M n 0 0 0 (fun _ => 0)).2.1 = c at *
  have fr2 : Fr [17, 18, 19] h (am_st (am_st (am_st g 17 5 0) 17 6 (-1)) 17 3 (c : Int)) := (((fr.mono (by decide)).st (by decide)).st (by decide)).st (by decide)
  refine upto (σ := am_H) (N := c) (I := fun i g' => Fr [18] (am_st (am_st (am_st g 17 5 0) 17 6 (-1)) 17 3 (c : Int)) g' ∧ ∀ k, k < i → g' 18 k = g 19 k) (G := fun i g' => tX3_cut (h 0 0 + (0 : Nat)) L xs (am_C true L xs P (d + 5)) K 62 [(2, 17), (0, (n : Int)), (2, 11), (0, (i : Int)), (0, fw (sgn h) n (Br h (sgn h) nq n) n 0)] [] g') ?_ ?_ c 0 _ (by omega) ⟨Fr.rf, fun k hk => by omega⟩
  · intro i g' hi ⟨q1, q2⟩ ih
    have e3 : g' 17 3 = (c : Int) := by rw [q1 17 (by decide), st_at]
    have e19 : g' 19 = g 19 := by rw [q1 19 (by decide), st_ne (by decide), st_ne (by decide), st_ne (by decide)]
    refine bX3_cut_62_1 ⟨fun z => by omega, fun _ => ⟨by omega, by omega, by omega, ih _ ⟨q1.st (by decide), fun k hk => ?_⟩⟩⟩
    rw [Int.toNat_natCast, st_ap, e19]
    split
    · rename_i ek; rw [ek]
    · exact q2 k (by omega)
  · intro g' ⟨q1, q2⟩
    have e3 : g' 17 3 = (c : Int) := by rw [q1 17 (by decide), st_at]
    refine bX3_cut_62_1 ⟨fun _ => bX3_cut_88_1 ?_, fun z => by omega⟩
    rw [e3]
    have := H g' (fr2.tr (q1.mono (by decide))) ?_
    · rw [hl, if_pos rfl] at this; exact this
    · refine ⟨by rw [hl, q1 17 (by decide), st_nj (by decide), st_nj (by decide), st_at], by rw [hl, q1 17 (by decide), st_nj (by decide), st_at], fun _ => ⟨by rw [hc]; exact e3, by rw [hc]; exact l6, fun k hk => ?_⟩, fun z => by rw [hl] at z; exact absurd rfl z⟩
      rw [hc] at hk
      rw [q2 k hk]; exact rws k hk
end
